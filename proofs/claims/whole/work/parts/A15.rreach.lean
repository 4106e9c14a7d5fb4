/-! ===== the reference: right, reached, hint ===== -/
section
variable {sc : mS} {d : Nat} {t : zT} {I J : Nat → Nat → Int} {Q : zR → zW → Prop} {D : tD} {ho lo : Nat}
theorem k189y {x1 x2 : Int} (e1 : x1 = 1) (h0 : I 1835 0 = 0) (h : Q (.inl (some (vi 1))) (z_cfg t, I, J)) : Go sc d mt_189 0 [vr 1835, vi x1, vi x2] [] (z_cfg t, I, J) Q := by
  subst e1
  refine b189_0 ?_
  rw [h0]
  refine ⟨⟨by decide, by decide⟩, fun _ => ⟨⟨by decide, by decide⟩, fun z => absurd z (by decide), fun _ => b189_16 ?_⟩, fun z => absurd rfl z⟩
  rw [h0]
  exact ⟨⟨by decide, by decide⟩, fun _ => h, fun z => absurd rfl z⟩
theorem k189n {x1 : Int} (e1 : x1 = 0) (h0 : I 1835 0 = 0) (h : Q (.inl (some (vi 0))) (z_cfg t, z_u I 1835 0 1, J)) : Go sc d mt_189 0 [vr 1835, vi x1, vi 1] [] (z_cfg t, I, J) Q := by
  subst e1
  refine b189_0 ?_
  rw [h0]
  refine ⟨⟨by decide, by decide⟩, fun _ => ⟨⟨by decide, by decide⟩, fun _ => b189_16 ?_, fun z => absurd rfl z⟩, fun z => absurd rfl z⟩
  rw [zu_same]
  exact ⟨⟨by decide, by decide⟩, fun z => absurd z (by decide), fun _ => h⟩
def hpW (T : Nat → Int) (k : Nat) : Bool := decide (0 ≤ T k)
theorem cW_cg {W W' : Nat → Bool} : ∀ n, (∀ k, k < n → W k = W' k) → cW W n = cW W' n := by
  intro n
  induction n with
  | zero => intro _; rfl
  | succ n ih =>
    intro h
    show cW W n + (W n).toNat = cW W' n + (W' n).toNat
    rw [ih (fun k hk => h k (by omega)), h n (by omega)]
/-- what reached tells -/
def rchA (D : tD) (g : gS) (T : Nat → Int) (x : Int) : Int := if x = 0 then (gN g : Int) else if x = 1 then (gM g : Int) else if x = 2 then (gN g : Int) - (cW (hpW T) (gN g) : Nat) else (gDp g (gN g - 1) : Int)
theorem k238 {x1 : Int} (hx : inR x1) (hd : 8 ≤ d) (hV : RV I D ho lo) (hho : ho < 2147483648) (hlo : lo < 2147483648) (h67 : I 1835 67 = 0 ∨ (I 1835 67 = 1 ∧ RK I D ho lo)) (g : gS) (hg : g = gAll D (acts D (-1)) ho lo) (T : Nat → Int) (hTd : T = dst D g)
    (hno : ¬ (0 ≤ x1 ∧ x1 ≤ 3) → Q (.inl (some (vi 0))) (z_cfg t, z_u (z_u I 1835 0 0) 1835 0 1, J))
    (h : (0 ≤ x1 ∧ x1 ≤ 3) → ∀ (I1 : Nat → Nat → Int), FZ (z_u I 1835 0 0) I1 → RV I1 D ho lo → I1 1835 67 = 1 → RK I1 D ho lo → Q (.inl (some (vi (if gSp g = true then -1 else rchA D g T x1)))) (z_cfg t, I1, J)) :
    Go sc d mt_238 0 [vr 1835, vi x1, vn, vn, vn] [] (z_cfg t, I, J) Q := by
  have hD := hV.2.2
  have bad : ¬ (0 ≤ x1 ∧ x1 ≤ 3) → Go sc d mt_238 19 [vr 1835, vi x1, vn, vn, vn] [vr 1835] (z_cfg t, z_u I 1835 0 0, J) Q := fun hb =>
    b238_19 (b238_20 (c189 (by omega) (fun d' _ => k189n rfl (zu_same _ _ _ _) (b238_24 ⟨⟨by decide, by decide⟩, fun _ => hno hb, fun z => absurd rfl z⟩))))
  refine b238_0 ⟨hx, fun c => bad (by omega), fun c => ⟨fun c2 => bad (by omega), fun c2 => ?_⟩⟩
  have h := h ⟨by omega, by omega⟩
  refine b238_20 (c189 (by omega) (fun d' _ => k189y rfl (zu_same _ _ _ _) (b238_24 ⟨⟨by decide, by decide⟩, fun z => absurd z (by decide), fun _ => ?_⟩)))
  refine c239 (by omega) (fun d' _ => k239 (by omega) hV.f0 hho hlo (h67_f0 h67) (fun I1 f1 hV1 h1 hK1 => ?_))
  rw [← hg]
  have hq := h I1 f1 hV1 h1 hK1
  cases hs : gSp g with
  | true =>
    rw [hs, if_pos rfl] at hq
    rw [if_pos rfl]
    exact b238_33 ⟨⟨by decide, by decide⟩, fun _ => hq, fun c => absurd rfl c⟩
  | false =>
    rw [hs, if_neg (by decide)] at hq
    rw [if_neg (by decide)]
    have hs' := hs
    rw [hg] at hs'
    have hQ := hK1.q hs'
    rw [← hg, ← hTd] at hQ
    have hO : gOk D (acts D (-1)) g := by rw [hg]; exact hK1.1.2.1
    have hFT := RB.F hK1.1 hs'
    rw [← hg] at hFT
    obtain ⟨hF, hTg⟩ := hFT
    have hN := hO.1
    have hM := hO.2.1
    have hmo := (gAll_B hs' (by rw [← hg]; exact hO)).1
    rw [← hg] at hmo
    have hRG : RG I1 g := by
      rcases hK1.1.1 with ⟨z, -⟩ | ⟨-, z⟩
      · rw [hs'] at z; cases z
      · rw [hg]; exact z
    have hdr : ∀ k, k < gN g → -1 ≤ T k ∧ T k ≤ 2000 := fun k hk => by rw [hTd]; exact dst_in hTg hN.1 hk
    clear hTd
    refine b238_33 ⟨⟨by decide, by decide⟩, fun c => absurd c (by decide), fun _ => ⟨hx, fun c3 => ⟨fun c4 => ?_, fun c4 => ?_⟩, fun c3 => ?_⟩⟩
    · unfold rchA at hq
      rw [if_pos c4] at hq
      rw [hQ.1]
      exact hq
    · unfold rchA at hq
      rw [if_neg c4, if_pos (by omega)] at hq
      rw [hRG.2.1]
      exact hq
    · have loop : ∀ (m k : Nat), k + m = gN g → Go sc d mt_238 66 [vr 1835, vi x1, vi ((k : Int) - (cW (hpW T) k : Nat)), vi ((if k = 0 then 0 else gDp g (k - 1) : Nat) : Int), vi (k : Int)] [] (z_cfg t, I1, J) Q := by
        intro m
        induction m with
        | zero =>
          intro k hk
          have hk : k = gN g := by omega
          subst hk
          refine b238_66 ?_
          rw [hQ.1, if_neg (by omega)]
          refine ⟨⟨by omega, by omega⟩, ⟨by omega, by omega⟩, fun z => by omega, fun _ => ⟨hx, fun c4 => ?_, fun c4 => ?_⟩⟩
          · unfold rchA at hq
            rw [if_neg (by omega), if_neg (by omega), if_pos c4] at hq
            exact hq
          · unfold rchA at hq
            rw [if_neg (by omega), if_neg (by omega), if_neg c4] at hq
            exact hq
        | succ m ih =>
          intro k hk
          have hTk := hdr k (by omega)
          have hdp := (hO.2.2.1 k (by omega)).2
          have hprev : (if k = 0 then 0 else gDp g (k - 1) : Nat) ≤ gDp g k := by
            by_cases q : k = 0
            · rw [if_pos q]; omega
            · rw [if_neg q]; exact hmo (k - 1) k (by omega) (by omega)
          have nx : ∀ (x2 x3 : Int), x2 = ((k + 1 : Nat) : Int) - (cW (hpW T) (k + 1) : Nat) → Go sc d mt_238 92 [vr 1835, vi x1, vi x3, vi ((if k = 0 then 0 else gDp g (k - 1) : Nat) : Int), vi (k : Int)] [vi (x2 - ((k : Int) - (cW (hpW T) k : Nat))), vi ((k : Int) - (cW (hpW T) k : Nat))] (z_cfg t, I1, J) Q := by
            intro x2 x3 hx2
            refine b238_92 ?_
            rw [Int.toNat_natCast, hRG.2.2.2.1 k (by omega)]
            have st : ∀ x4 : Int, x4 = (gDp g k : Int) → Go sc d mt_238 116 [vr 1835, vi x1, vi (((k : Int) - (cW (hpW T) k : Nat)) + (x2 - ((k : Int) - (cW (hpW T) k : Nat)))), vi ((if k = 0 then 0 else gDp g (k - 1) : Nat) : Int), vi (k : Int)] [vi x4] (z_cfg t, I1, J) Q := by
              intro x4 hx4
              refine b238_116 ?_
              have := ih (k + 1) (by omega)
              rw [if_neg (by omega), show k + 1 - 1 = k by omega, ← hx2, ← hx4] at this
              rw [show ((k : Int) - (cW (hpW T) k : Nat)) + (x2 - ((k : Int) - (cW (hpW T) k : Nat))) = x2 by omega, show (k : Int) + 1 = ((k + 1 : Nat) : Int) by omega]
              exact this
            refine ⟨⟨by omega, by omega⟩, ⟨by omega, by omega⟩, ⟨by omega, by omega⟩, fun c4 => st _ rfl, fun c4 => st _ (by omega)⟩
          refine b238_66 ?_
          rw [hQ.1, Int.toNat_natCast, hQ.2.1 k (by omega)]
          have cs : cW (hpW T) (k + 1) = cW (hpW T) k + (hpW T k).toNat := rfl
          refine ⟨⟨by omega, by omega⟩, ⟨by omega, by omega⟩, fun _ => ⟨⟨by omega, by omega⟩, ⟨by omega, by omega⟩, fun c4 => ?_, fun c4 => ?_⟩, fun z => by omega⟩
          · have hw : hpW T k = false := decide_eq_false (by omega)
            have e1 : (hpW T k).toNat = 0 := by rw [hw]; rfl
            have := nx ((k : Int) - (cW (hpW T) k : Nat) + 1) ((k : Int) - (cW (hpW T) k : Nat)) (by rw [cs, e1]; omega)
            rw [show (k : Int) - (cW (hpW T) k : Nat) + 1 - ((k : Int) - (cW (hpW T) k : Nat)) = 1 by omega] at this
            exact this
          · have hw : hpW T k = true := decide_eq_true (by omega)
            have e1 : (hpW T k).toNat = 1 := by rw [hw]; rfl
            have := nx ((k : Int) - (cW (hpW T) k : Nat)) ((k : Int) - (cW (hpW T) k : Nat)) (by rw [cs, e1]; omega)
            rw [show (k : Int) - (cW (hpW T) k : Nat) - ((k : Int) - (cW (hpW T) k : Nat)) = 0 by omega] at this
            exact this
      exact loop (gN g) 0 (by omega)
/-- what hint tells at the k-th state -/
def hintA (D : tD) (g : gS) (T : Nat → Int) (k : Nat) (x : Int) : Int := if x = 0 then T k else if T k ≤ 0 then -1 else match nxE D g false T k with
  | some e => if x = 1 then ((gE g e).1 : Int) else if x = 2 then ((gE g e).2.1 : Int) else ((gE g e).2.2.1 : Int)
  | none => -1
theorem k282 {x1 : Int} {mk r s k0 : Nat} (hx : inR x1) (hd : 8 ≤ d) (hV : RV I D ho lo) (hho : ho < 2147483648) (hlo : lo < 2147483648) (h67 : I 1835 67 = 0 ∨ (I 1835 67 = 1 ∧ RK I D ho lo)) (g : gS) (hg : g = gAll D (acts D (-1)) ho lo) (T : Nat → Int) (hTd : T = dst D g) (hmk : I 1835 84 = mk) (hmk2 : mk ≤ 60) (hr : I 3316 mk = r) (hsr : SR s r) (hs4 : s < 4194304) (hk0 : gSp g = false → k0 < gN g ∧ gX g k0 = s)
    (hno : ¬ (0 ≤ x1 ∧ x1 ≤ 3) → Q (.inl (some (vi 0))) (z_cfg t, z_u (z_u I 1835 0 0) 1835 0 1, J))
    (h : (0 ≤ x1 ∧ x1 ≤ 3) → ∀ (I1 : Nat → Nat → Int), FZ (z_u I 1835 0 0) I1 → RV I1 D ho lo → I1 1835 67 = 1 → RK I1 D ho lo → Q (.inl (some (vi (if gSp g = true then -2 else hintA D g T k0 x1)))) (z_cfg t, I1, J)) :
    Go sc d mt_282 0 [vr 1835, vi x1, vn, vn, vn] [] (z_cfg t, I, J) Q := by
  have hD := hV.2.2
  have bad : ¬ (0 ≤ x1 ∧ x1 ≤ 3) → Go sc d mt_282 19 [vr 1835, vi x1, vn, vn, vn] [vr 1835] (z_cfg t, z_u I 1835 0 0, J) Q := fun hb =>
    b282_19 (b282_20 (c189 (by omega) (fun d' _ => k189n rfl (zu_same _ _ _ _) (b282_24 ⟨⟨by decide, by decide⟩, fun _ => hno hb, fun z => absurd rfl z⟩))))
  refine b282_0 ⟨hx, fun c => bad (by omega), fun c => ⟨fun c2 => bad (by omega), fun c2 => ?_⟩⟩
  have h := h ⟨by omega, by omega⟩
  refine b282_20 (c189 (by omega) (fun d' _ => k189y rfl (zu_same _ _ _ _) (b282_24 ⟨⟨by decide, by decide⟩, fun z => absurd z (by decide), fun _ => ?_⟩)))
  refine c239 (by omega) (fun d' _ => k239 (by omega) hV.f0 hho hlo (h67_f0 h67) (fun I1 f1 hV1 h1 hK1 => ?_))
  rw [← hg]
  have hq := h I1 f1 hV1 h1 hK1
  cases hs : gSp g with
  | true =>
    rw [hs, if_pos rfl] at hq
    rw [if_pos rfl]
    exact b282_33 ⟨⟨by decide, by decide⟩, fun _ => hq, fun c => absurd rfl c⟩
  | false =>
    rw [hs, if_neg (by decide)] at hq
    rw [if_neg (by decide)]
    have hs' := hs
    rw [hg] at hs'
    have hQ := hK1.q hs'
    rw [← hg, ← hTd] at hQ
    have hO : gOk D (acts D (-1)) g := by rw [hg]; exact hK1.1.2.1
    have hFT := RB.F hK1.1 hs'
    rw [← hg] at hFT
    obtain ⟨hF, hTg⟩ := hFT
    have hN := hO.1
    have hM := hO.2.1
    have hT : TP D g false T := by rw [hTd]; exact TP_few (D := D) hTg hN.1
    have hdr : ∀ k, k < gN g → -1 ≤ T k ∧ T k ≤ 2000 := fun k hk => by rw [hTd]; exact dst_in hTg hN.1 hk
    obtain ⟨hkN, hkx⟩ := hk0 hs
    have e84 : I1 1835 84 = mk := by rw [f1.2.1 84 (by decide) (by decide) (by decide) (by decide) (by decide), zu_nk (by decide : ¬ 84 = 0)]; exact hmk
    have e33 : I1 3316 mk = r := by rw [f1.1 3316 (by decide) (by decide) (by decide) (by decide) (by decide) (by decide) (by decide) (by decide) (by decide) (by decide) (by decide) (by decide) (by decide) (by decide), zu_ne (by decide : ¬ 3316 = 1835)]; exact hr
    clear hTd
    have hrl := hsr.1
    refine b282_33 ⟨⟨by decide, by decide⟩, fun c => absurd c (by decide), fun _ => ?_⟩
    have at0 : ∀ k, k < gN g → (I1 2676 k = (r : Int) ↔ k = k0) := by
      intro k hk
      obtain ⟨r', h1', h2'⟩ := hQ.2.2.2.2 k hk
      rw [h1']
      have hst := (hO.2.2.1 k hk).1.1
      constructor
      · intro z
        have z : r' = r := by omega
        rw [z] at h2'
        exact hO.2.2.2.2.1 k k0 hk hkN (by rw [hkx]; exact SR_inj hst hs4 h2' hsr)
      · intro z
        rw [z, hkx] at h2'
        rw [SR_fun h2' hsr]
    have loop : ∀ (m k : Nat), k + m = k0 → Go sc d mt_282 41 [vr 1835, vi x1, vi (k : Int), vn, vn] [] (z_cfg t, I1, J) Q := by
      intro m
      induction m with
      | zero =>
        intro k hk
        have hk : k = k0 := by omega
        subst hk
        have hTk := hdr k hkN
        have hFk := hF k hkN
        refine b282_41 ?_
        rw [e84, Int.toNat_natCast, Int.toNat_natCast, e33, (at0 k hkN).mpr rfl, hQ.2.1 k hkN, hQ.2.2.1 k (by omega)]
        unfold hintA at hq
        refine ⟨⟨by omega, by omega⟩, ⟨by omega, by omega⟩, ⟨by omega, by omega⟩, ⟨by omega, by omega⟩, fun _ => ⟨⟨by omega, by omega⟩, fun c3 => ?_, fun c3 => ⟨hx, fun c4 => ?_, fun c4 => ⟨fun c5 => ?_, fun c5 => ⟨⟨by omega, by omega⟩, ?_⟩⟩⟩⟩, fun z => absurd rfl z⟩
        · by_cases q : x1 = 0
          · rw [if_pos q] at hq; exact hq
          · rw [if_neg q, if_pos (by omega)] at hq
            rw [show T k = -1 by omega]
            exact hq
        · rw [if_pos c4] at hq; exact hq
        · rw [if_neg c4, if_pos (by omega)] at hq; exact hq
        · rw [if_neg c4, if_neg (by omega)] at hq
          obtain ⟨e, hn⟩ := nx_pos hT hkN (by omega)
          rw [hn] at hq
          dsimp only at hq
          have inner : ∀ (n e' : Nat), gF g k ≤ e' → e' + n = gF g (k + 1) → nxE D g false T k = (List.range' e' n).find? (fun e => decide (0 ≤ T (tg g e) ∧ T (tg g e) + wE D false g e = T k)) → Go sc d mt_282 96 [vr 1835, vi x1, vi (k : Int), vi (T k), vi (e' : Int)] [] (z_cfg t, I1, J) Q := by
            intro n
            induction n with
            | zero =>
              intro e' _ _ hx'
              rw [hn] at hx'
              cases hx'
            | succ n ihn =>
              intro e' hlo' he' hx'
              rw [rng_cons, find_cons] at hx'
              have hzN : tg g e' < gN g := hTg k hkN e' hlo' (by omega)
              have hdz := hdr _ hzN
              have wE1 : wE D false g e' = 1 := rfl
              obtain ⟨a1, a2, a3, a4⟩ := hQ.2.2.2.1 e' (by omega)
              refine b282_96 ?_
              rw [Int.toNat_natCast, a4, Int.toNat_natCast, hQ.2.1 _ hzN, a1, a2, a3]
              refine ⟨⟨by omega, by omega⟩, ⟨by omega, by omega⟩, ⟨by omega, by omega⟩, ⟨by omega, by omega⟩, fun c6 => ?_, fun c6 => ?_⟩
              · rw [if_pos (decide_eq_true ⟨by omega, by rw [wE1]; omega⟩), hn] at hx'
                cases hx'
                refine ⟨hx, fun c7 => ?_, fun c7 => ⟨fun c8 => ?_, fun c8 => ?_⟩⟩
                · rw [if_pos c7] at hq; exact hq
                · rw [if_neg c7, if_pos c8] at hq; exact hq
                · rw [if_neg c7, if_neg c8] at hq; exact hq
              · rw [if_neg (fun z => by have := (of_decide_eq_true z).2; rw [wE1] at this; omega)] at hx'
                rw [show (e' : Int) + 1 = ((e' + 1 : Nat) : Int) by omega]
                exact ihn (e' + 1) (by omega) (by omega) hx'
          exact inner (gF g (k + 1) - gF g k) (gF g k) (Nat.le_refl _) (by omega) rfl
      | succ m ih =>
        intro k hk
        obtain ⟨r', h1', h2'⟩ := hQ.2.2.2.2 k (by omega)
        have hr'l := h2'.1
        have hne : ¬ I1 2676 k = (r : Int) := fun z => by have := (at0 k (by omega)).mp z; omega
        refine b282_41 ?_
        rw [e84, Int.toNat_natCast, Int.toNat_natCast, e33]
        refine ⟨⟨by omega, by omega⟩, ⟨by omega, by omega⟩, ⟨by rw [h1']; omega, by rw [h1']; omega⟩, ⟨by omega, by omega⟩, fun z => absurd z hne, fun _ => ?_⟩
        rw [show (k : Int) + 1 = ((k + 1 : Nat) : Int) by omega]
        exact ih (k + 1) (by omega)
    exact loop k0 0 (by omega)
end
