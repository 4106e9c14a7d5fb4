/-! ===== the reference: quickest ===== -/
section
variable {D : tD} {g : gS} {k e : Nat}
theorem hop_dst (hTg : tgOk g) (hN : gN g ≤ 2000) (hk : k < gN g) : hop D g k ↔ 0 ≤ dst D g k := by
  constructor
  · rintro ⟨m, c, h⟩
    have A : ∀ (c k m : Nat), k < gN g → wyP D g c k m → 0 ≤ dst D g k := by
      intro c
      induction c with
      | zero => intro k m _ h; rw [dst_0.mpr h.1]; decide
      | succ c ih =>
        intro k m hk h
        obtain ⟨e, he, m', h1, -⟩ := h
        exact (dst_up hTg hN hk he.1 he.2 (ih _ m' (hTg k hk e he.1 he.2) h1)).1
    exact A c k m hk h
  · intro h
    have A : ∀ (u k : Nat), k < gN g → dst D g k = (u : Int) → hop D g k := by
      intro u
      induction u with
      | zero => intro k _ h; exact ⟨0, 0, dst_0.mp h, rfl⟩
      | succ u ih =>
        intro k hk h
        obtain ⟨e, e1, e2, e3⟩ := dst_dn h
        obtain ⟨m, c, h1⟩ := ih _ (hTg k hk e e1 e2) e3
        exact ⟨m + mE D g e, c + 1, e, ⟨e1, e2⟩, m, h1, rfl⟩
    exact A (dst D g k).toNat k hk (Int.toNat_of_nonneg h).symm
theorem quick_iff (hTg : tgOk g) (hN : gN g ≤ 2000) (hk : k < gN g) (he : eIn g k e) : (0 ≤ tQ D g 4096 (tg g e) ∧ tQ D g 4096 (tg g e) + wE D true g e = tQ D g 4096 k) ↔ (0 ≤ tQ D g 100000 (tg g e) ∧ tQ D g 100000 (tg g e) + uE D g e = tQ D g 100000 k) := by
  have u : uE D g e = ((mE D g e * 100000 + 1 : Nat) : Int) := by unfold uE; omega
  have w : wE D true g e = ((mE D g e * 4096 + 1 : Nat) : Int) := rfl
  rw [u, w]
  constructor
  · rintro ⟨a, b⟩
    have hz := tQ_in.mp a
    exact ⟨tQ_in.mpr hz, (tQ_eq hTg hN (by decide) hk he (tQ_in.mpr hz)).mpr ((tQ_eq hTg hN (by decide) hk he a).mp b)⟩
  · rintro ⟨a, b⟩
    have hz := tQ_in.mp a
    exact ⟨tQ_in.mpr hz, (tQ_eq hTg hN (by decide) hk he (tQ_in.mpr hz)).mpr ((tQ_eq hTg hN (by decide) hk he a).mp b)⟩
theorem quick_mins (hD : dOk D) (hTg : tgOk g) (hN : gN g ≤ 2000) : ∀ (f k : Nat), k < gN g → hop D g k → qC D g k ≤ f → mins D ((wyL D g true (tQ D g 4096) f k).map (e3 g)) = qM D g k := by
  intro f
  induction f with
  | zero =>
    intro k hk h hc
    have := q_goal (q_goal2 h (by omega))
    rw [this.2.1]
    rfl
  | succ f ih =>
    intro k hk h hc
    by_cases z : tQ D g 4096 k = 0
    · rw [wyL_none (nx_zero hD z), (q_goal ((tQ_0 (by decide)).mp z)).2.1]
      rfl
    · have h0 := (tQ_in (B := 4096)).mpr h
      obtain ⟨e, hn⟩ := nx_pos (TP_quick (D := D) hTg hN) hk (by omega)
      obtain ⟨he, h1, h2⟩ := nx_some hn
      have h3 := (tQ_eq hTg hN (by decide) hk he h1).mp h2
      rw [wyL_some hn]
      show mE D g e + mins D ((wyL D g true (tQ D g 4096) f (tg g e)).map (e3 g)) = qM D g k
      rw [ih (tg g e) (hTg k hk e he.1 he.2) (tQ_in.mp h1) (by omega), h3.1]
      omega
end
section
variable {sc : mS} {d : Nat} {t : zT} {I J : Nat → Nat → Int} {Q : zR → zW → Prop} {D : tD} {ho lo : Nat}
theorem k256 {ans : Int} (hd : 8 ≤ d) (hV : RV I D ho lo) (hho : ho < 2147483648) (hlo : lo < 2147483648) (h67 : I 1835 67 = 0 ∨ (I 1835 67 = 1 ∧ RK I D ho lo)) (g : gS) (hg : g = gAll D (acts D (-1)) ho lo) (T : Nat → Int) (hTd : T = dst D g) (U R : Nat → Int) (C : Nat → Nat) (hP : gSp g = false → tgOk g → PQ D g R C ∧ TP D g true U ∧ (∀ k, k < gN g → R k = 0 → C k = 0) ∧ (T 0 = -1 ∨ 0 ≤ R 0) ∧ (∀ k, k < gN g → (0 < R k ↔ 0 < U k)) ∧ (∀ k, k < gN g → (R k = 0 ↔ U k = 0)) ∧ (∀ k e, k < gN g → eIn g k e → ((0 ≤ U (tg g e) ∧ U (tg g e) + wE D true g e = U k) ↔ (0 ≤ R (tg g e) ∧ R (tg g e) + uE D g e = R k))) ∧ ∀ k e, k < gN g → eIn g k e → 0 ≤ R (tg g e) → R (tg g e) + uE D g e = R k → C k = C (tg g e) + 1) (hans : gSp g = false → ¬ T 0 = -1 → Int.tdiv (R 0) 100000 = ans)
    (h : ∀ (I' I1 J' : Nat → Nat → Int), FZ (z_u I 1835 0 0) I1 → FN I1 I' → (∀ a, ¬ a = 2967 → J' a = J a) → RV I' D ho lo → I' 1835 67 = 1 → RK I' D ho lo → ((gSp g = true ∨ T 0 = -1) → I' = I1) → (gSp g = false → ¬ T 0 = -1 → KX I' D ((wyL D g true U 2000 0).map (e3 g))) → Q (.inl (some (vi (if gSp g = true then -2 else if T 0 = -1 then -1 else ans)))) (z_cfg t, I', J')) :
    Go sc d mt_256 0 [vr 1835, vn, vn, vn] [] (z_cfg t, I, J) Q := by
  have hD := hV.2.2
  refine b256_0 (c239 (by omega) (fun d' _ => k239 (by omega) hV.f0 hho hlo (h67_f0 h67) (fun I1 f1 hV1 h1 hK1 => ?_)))
  rw [← hg]
  cases hs : gSp g with
  | true =>
    rw [if_pos rfl]
    have := h I1 I1 J f1 (FN.rf _) (fun _ _ => rfl) hV1 h1 hK1 (fun _ => rfl) (fun z => by rw [hs] at z; cases z)
    rw [hs, if_pos rfl] at this
    exact b256_9 ⟨⟨by decide, by decide⟩, fun _ => this, fun c => absurd rfl c⟩
  | false =>
    rw [if_neg (by decide)]
    have hs' := hs
    rw [hg] at hs'
    have hQ := hK1.q hs'
    rw [← hg, ← hTd] at hQ
    have hO : gOk D (acts D (-1)) g := by rw [hg]; exact hK1.1.2.1
    have hFT := RB.F hK1.1 hs'
    rw [← hg] at hFT
    obtain ⟨hF, hTg⟩ := hFT
    have hN := hO.1
    have hM := hO.2.1
    have hE := gAll_E hs' (by rw [← hg]; exact hO)
    rw [← hg] at hE
    have hT : TP D g false T := by rw [hTd]; exact TP_few (D := D) hTg hN.1
    have hdr : ∀ k, k < gN g → -1 ≤ T k ∧ T k ≤ 2000 := fun k hk => by rw [hTd]; exact dst_in hTg hN.1 hk
    obtain ⟨hPQ, hTU, hC0, hT0R, hpos, hzer, hiff, hCm⟩ := hP hs hTg
    have hans := hans hs
    clear hTd
    refine b256_9 ⟨⟨by decide, by decide⟩, fun c => absurd c (by decide), fun _ => ?_⟩
    have hd0 := hdr 0 (by omega)
    rw [hQ.2.1 0 (by omega)]
    refine ⟨⟨by omega, by omega⟩, fun c => ?_, fun c => ?_⟩
    · have := h I1 I1 J f1 (FN.rf _) (fun _ _ => rfl) hV1 h1 hK1 (fun _ => rfl) (fun _ z => absurd c z)
      rw [hs, if_neg (by decide), if_pos c] at this
      exact this
    · have hR0 : 0 ≤ R 0 := hT0R.resolve_left c
      refine c257 (by omega) (fun d' _ => k257 (by omega) hV1.1 hD hO hQ hF hdr hT.1 hPQ (fun J1 j1 j2 => b256_31 ?_))
      obtain ⟨r, hr1, hr2⟩ := hQ.2.2.2.2 0 (by omega)
      have hx0 : gX g 0 = dStart D := by rw [hg]; exact gAll_x0
      rw [hr1]
      rw [hx0] at hr2
      have hRb : ∀ y, y < gN g → -1 ≤ R y ∧ R y < 100000000000000 := fun y hy => ⟨(hPQ.2.1 y hy).1, (j2 y hy).2⟩
      refine c253 (by omega) (fun d' _ => k253 rfl hV1.1 hr2 (fun I2 f2 hK2 => b256_41 ?_))
      rw [(j2 0 (by omega)).1, hans c]
      have hb0 := hRb 0 (by omega)
      refine ⟨⟨⟨by omega, by omega⟩, ⟨by decide, by decide⟩, by decide⟩, ?_⟩
      have loop : ∀ (m k f : Nat) (pre : List Nat) (I3 : Nat → Nat → Int) (v2 : zV), k < gN g → 0 ≤ R k → C k = m → m ≤ f → pre.length + f = 2000 → FN I1 I3 → KX I3 D (pre.map (e3 g)) → gX g k = aft D (pre.map (e3 g)) (pre.map (e3 g)).length → wyL D g true U 2000 0 = pre ++ wyL D g true U f k → Go sc d mt_256 55 [vr 1835, vi (k : Int), vi ans, v2] [] (z_cfg t, I3, J1) Q := by
        intro m
        induction m with
        | zero =>
          intro k f pre I3 v2 hk hRk hCk hmf hpf f3 hK3 hx hw
          have hR0 : R k = 0 := by
            by_cases z : R k = 0
            · exact z
            · obtain ⟨e, -, -, -, e4⟩ := hPQ.2.2.2 k hk (by omega)
              omega
          rw [wyL_none (nx_zero hD ((hzer k hk).mp hR0)), List.append_nil] at hw
          have := h I3 I1 J1 f1 f3 j1 (hV1.fn f3) (by rw [f3.2 67 (by decide) (by decide)]; exact h1) (hK1.fn f3) (fun z => by
            rcases z with z | z
            · rw [hs] at z; cases z
            · exact absurd z c) (fun _ _ => by rw [hw]; exact hK3)
          rw [hs, if_neg (by decide), if_neg c] at this
          refine b256_55 ?_
          rw [Int.toNat_natCast, (j2 k hk).1, hR0]
          exact ⟨⟨by omega, by omega⟩, ⟨⟨by decide, by decide⟩, ⟨by decide, by decide⟩⟩, fun z => absurd z (by decide), fun _ => this⟩
        | succ m ih =>
          intro k f pre I3 v2 hk hRk hCk hmf hpf f3 hK3 hx hw
          have hQ3 := hQ.fn f3
          have hRp : 0 < R k := by
            by_cases z : R k = 0
            · have := hC0 k hk z; omega
            · omega
          obtain ⟨e, hn⟩ := nx_pos hTU hk ((hpos k hk).mp hRp)
          obtain ⟨he, ht1, ht2⟩ := nx_some hn
          obtain ⟨hz1, hz2⟩ := (hiff k e hk he).mp ⟨ht1, ht2⟩
          have hFk := hF k hk
          have hbk := hRb k hk
          refine b256_55 ?_
          rw [Int.toNat_natCast, (j2 k hk).1, hQ3.2.2.1 k (by omega)]
          have zl : 0 < zlc (R k) 0 := by
            unfold zlc
            rw [if_neg (by omega), if_neg (by omega)]
            decide
          refine ⟨⟨by omega, by omega⟩, ⟨⟨by omega, by omega⟩, ⟨by decide, by decide⟩⟩, fun _ => ⟨⟨by omega, by omega⟩, ?_⟩, fun z => absurd zl z⟩
          have inner : ∀ (n e' : Nat), gF g k ≤ e' → e' + n = gF g (k + 1) → nxE D g true U k = (List.range' e' n).find? (fun e => decide (0 ≤ U (tg g e) ∧ U (tg g e) + wE D true g e = U k)) → Go sc d mt_256 73 [vr 1835, vi (k : Int), vi ans, vi (e' : Int)] [] (z_cfg t, I3, J1) Q := by
            intro n
            induction n with
            | zero =>
              intro e' _ _ hx'
              rw [hn] at hx'
              cases hx'
            | succ n ihn =>
              intro e' hlo' he' hx'
              rw [rng_cons, find_cons] at hx'
              have hin : eIn g k e' := ⟨hlo', by omega⟩
              have hzN : tg g e' < gN g := hTg k hk e' hlo' (by omega)
              have hbz := hRb _ hzN
              have hmE : uE D g e' = 100000 * ((mx (dT D) (dMi D) (gE g e').2.2.1 : Nat) : Int) + 1 := rfl
              have hmx := (dsm hD (gE g e').2.2.1).2.2.2
              have hS := (hO.2.2.2.2.2 e' (by omega)).2.2.1
              obtain ⟨a1, a2, a3, a4⟩ := hQ3.2.2.2.1 e' (by omega)
              have no : ¬ (0 ≤ R (tg g e') ∧ R (tg g e') + uE D g e' = R k) → Go sc d mt_256 128 [vr 1835, vi (k : Int), vi ans, vi (e' : Int)] [] (z_cfg t, I3, J1) Q := by
                intro hno
                rw [if_neg (fun z => hno ((hiff k e' hk hin).mp (of_decide_eq_true z)))] at hx'
                refine b256_128 ?_
                rw [show (e' : Int) + 1 = ((e' + 1 : Nat) : Int) by omega]
                exact ihn (e' + 1) (by omega) (by omega) hx'
              refine b256_73 ?_
              rw [Int.toNat_natCast, a4, Int.toNat_natCast, (j2 _ hzN).1, a3]
              refine ⟨⟨by omega, by omega⟩, ⟨by omega, by omega⟩, ⟨⟨by omega, by omega⟩, ⟨by decide, by decide⟩⟩, fun c2 => no (fun z => by have := zlc_lt.mp c2; omega), fun c2 => ?_⟩
              have c2 : ¬ R (tg g e') < 0 := fun z => c2 (zlc_lt.mpr z)
              refine c255 (by omega) (fun d' _ => k255 rfl (hV1.1.fn f3) hD (by omega) ?_)
              refine b256_113 ?_
              rw [Int.toNat_natCast, (j2 k hk).1]
              refine ⟨⟨by omega, by omega⟩, ⟨by omega, by omega⟩, ⟨⟨by omega, by omega⟩, ⟨by omega, by omega⟩⟩, fun c3 => ?_, fun c3 => no (fun z => c3 ?_)⟩
              · have c3 : R (tg g e') + 100000 * ((mx (dT D) (dMi D) (gE g e').2.2.1 : Nat) : Int) + 1 = R k := by
                  unfold zlc at c3
                  split at c3
                  · exact absurd c3 (by decide)
                  · split at c3
                    · assumption
                    · exact absurd c3 (by decide)
                have hcond := (hiff k e' hk hin).mpr ⟨by omega, by rw [hmE]; omega⟩
                rw [if_pos (decide_eq_true hcond), hn] at hx'
                cases hx'
                have hto := (hE k hk).1 e he
                refine c254 (by omega) (fun d' _ => k254 (k := k) (l := pre.map (e3 g)) rfl (by omega) (hV1.1.fn f3) hD hO hQ3 (by omega) hx hto (by rw [List.length_map]; omega) hK3 (fun I4 f4 hK4 => ?_))
                refine b256_139 ?_
                rw [Int.toNat_natCast, ((hQ3.fn f4).2.2.2.1 e (by omega)).2.2.2]
                refine ⟨⟨by omega, by omega⟩, ?_⟩
                have em : (pre ++ [e]).map (e3 g) = pre.map (e3 g) ++ [e3 g e] := by rw [List.map_append]; rfl
                have hCz : C (tg g e) = m := by have := hCm k e hk he hz1 hz2; omega
                refine ih (tg g e) (f - 1) (pre ++ [e]) I4 _ hzN hz1 hCz (by omega) (by rw [List.length_append]; show pre.length + 1 + (f - 1) = 2000; omega) (f3.tr f4) (by rw [em]; exact hK4) ?_ ?_
                · rw [em, List.length_append]
                  show gX g (tg g e) = aft D (pre.map (e3 g) ++ [e3 g e]) ((pre.map (e3 g)).length + 1)
                  rw [aft_app, ← hx]
                  exact hto.2
                · rw [hw, show f = (f - 1) + 1 by omega, wyL_some hn, List.append_assoc]
                  rfl
              · unfold zlc
                rw [if_neg (by omega), if_pos (by omega)]
          exact inner (gF g (k + 1) - gF g k) (gF g k) (Nat.le_refl _) (by omega) rfl
      exact loop (C 0) 0 2000 [] I2 vn (by omega) hR0 rfl (by have := (hPQ.2.1 0 (by omega)).2 hR0; omega) rfl f2 hK2 hx0 rfl
end
