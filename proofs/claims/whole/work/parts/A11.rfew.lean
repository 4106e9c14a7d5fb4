/-! ===== the reference: a way is kept; fewest ===== -/
/-- the state behind the first i crossings -/
def aft (D : tD) (l : List (Nat × Nat × Nat)) (i : Nat) : Nat := (l.take i).foldl (fun s c => dAfter D s c.1 c.2.1 c.2.2) (dStart D)
/-- the reference keeps the way l -/
def KX (I : Nat → Nat → Int) (D : tD) (l : List (Nat × Nat × Nat)) : Prop := I 1835 70 = ((l.length : Nat) : Int) ∧ I 1835 71 = dT D ∧ (∀ i c, l[i]? = some c → I 3060 i = (c.1 : Int) ∧ I 3092 i = (c.2.1 : Int) ∧ I 3124 i = (c.2.2 : Int) ∧ I 3156 i = ((mx (dT D) (dMi D) c.2.2 : Nat) : Int)) ∧ ∀ i, i ≤ l.length → ∃ r : Nat, I 3188 i = r ∧ SR (aft D l i) r
/-- the reference's rows of the graph -/
def RQ (I : Nat → Nat → Int) (T : Nat → Int) (g : gS) : Prop := I 1835 54 = gN g ∧ (∀ k, k < gN g → I 2772 k = T k) ∧ (∀ i, i ≤ gN g → I 2708 i = gF g i) ∧ (∀ e, e < gM g → I 2836 e = ((gE g e).1 : Int) ∧ I 2868 e = ((gE g e).2.1 : Int) ∧ I 2900 e = ((gE g e).2.2.1 : Int) ∧ I 2932 e = (tg g e : Int)) ∧ ∀ k, k < gN g → ∃ r : Nat, I 2676 k = r ∧ SR (gX g k) r
/-- what keeping a way leaves alone -/
def FN (I I' : Nat → Nat → Int) : Prop := (∀ a, ¬ a = 1835 → ¬ a = 3060 → ¬ a = 3092 → ¬ a = 3124 → ¬ a = 3156 → ¬ a = 3188 → I' a = I a) ∧ ∀ k, ¬ k = 70 → ¬ k = 71 → I' 1835 k = I 1835 k
theorem FN.rf (I : Nat → Nat → Int) : FN I I := ⟨fun _ _ _ _ _ _ _ => rfl, fun _ _ _ => rfl⟩
theorem FN.tr {I I1 I2 : Nat → Nat → Int} (h : FN I I1) (h' : FN I1 I2) : FN I I2 := ⟨fun a h1 h2 h3 h4 h5 h6 => (h'.1 a h1 h2 h3 h4 h5 h6).trans (h.1 a h1 h2 h3 h4 h5 h6), fun k h1 h2 => (h'.2 k h1 h2).trans (h.2 k h1 h2)⟩
theorem RQ.fn {I I' : Nat → Nat → Int} {T : Nat → Int} {g : gS} (h : RQ I T g) (f : FN I I') : RQ I' T g := by
  have e : ∀ a, a = 2772 ∨ a = 2708 ∨ a = 2836 ∨ a = 2868 ∨ a = 2900 ∨ a = 2932 ∨ a = 2676 → I' a = I a := fun a ha => f.1 a (by omega) (by omega) (by omega) (by omega) (by omega) (by omega)
  unfold RQ
  rw [f.2 54 (by decide) (by decide), e 2772 (by omega), e 2708 (by omega), e 2836 (by omega), e 2868 (by omega), e 2900 (by omega), e 2932 (by omega), e 2676 (by omega)]
  exact h
theorem RD.fn {I I' : Nat → Nat → Int} {D : tD} {ho lo : Nat} (h : RD I D ho lo) (f : FN I I') : RD I' D ho lo := h.fr (fun k hk => f.2 k (by omega) (by omega)) (fun a ha => f.1 a (by omega) (by omega) (by omega) (by omega) (by omega) (by omega))
theorem RV.fn {I I' : Nat → Nat → Int} {D : tD} {ho lo : Nat} (h : RV I D ho lo) (f : FN I I') : RV I' D ho lo := ⟨h.1.fn f, fun S p q l z1 z2 z3 z4 z5 => by rw [f.1 2612 (by decide) (by decide) (by decide) (by decide) (by decide) (by decide)]; exact h.2.1 S p q l z1 z2 z3 z4 z5, h.2.2⟩
theorem RK.q {I : Nat → Nat → Int} {D : tD} {ho lo : Nat} (h : RK I D ho lo) (hs : gSp (gAll D (acts D (-1)) ho lo) = false) : RQ I (dst D (gAll D (acts D (-1)) ho lo)) (gAll D (acts D (-1)) ho lo) := by
  obtain ⟨⟨hc, hO, hF⟩, hd⟩ := h
  rcases hc with ⟨z, -⟩ | ⟨-, z⟩
  · rw [hs] at z; cases z
  · obtain ⟨-, -, ⟨X, T, r1, r2⟩, -, r4⟩ := z
    exact ⟨r1.2.1, hd hs, hF hs, r4, fun k hk => ⟨X k, (r1.2.2.1 k hk).1, r2 k hk⟩⟩
section
variable {D : tD}
theorem aft_app {l : List (Nat × Nat × Nat)} {c : Nat × Nat × Nat} : aft D (l ++ [c]) (l.length + 1) = dAfter D (aft D l l.length) c.1 c.2.1 c.2.2 := by
  unfold aft
  rw [List.take_of_length_le (by rw [List.length_append]; exact Nat.le_refl _), List.take_of_length_le (Nat.le_refl _), List.foldl_append]
  rfl
theorem aft_old {l : List (Nat × Nat × Nat)} {c : Nat × Nat × Nat} {i : Nat} (hi : i ≤ l.length) : aft D (l ++ [c]) i = aft D l i := by
  unfold aft
  rw [List.take_append_of_le_length hi]
end
section
variable {sc : mS} {d : Nat} {t : zT} {I J : Nat → Nat → Int} {Q : zR → zW → Prop} {D : tD} {ho lo : Nat}
theorem k253 {x1 : Int} {r : Nat} (e1 : x1 = r) (hR : RD I D ho lo) (hr : SR (dStart D) r) (h : ∀ (I' : Nat → Nat → Int), FN I I' → KX I' D [] → Q (.inl none) (z_cfg t, I', J)) : Go sc d mt_253 0 [vr 1835, vi x1] [] (z_cfg t, I, J) Q := by
  subst e1
  refine b253_0 (h _ ⟨fun a a1 _ _ _ _ a6 => by rw [zu_ne a6, zu_ne a1, zu_ne a1], fun k k1 k2 => by rw [zu_ne (by decide : ¬ 1835 = 3188), zu_nk k2, zu_nk k1]⟩ ⟨?_, ?_, fun i c hc => (by rw [List.getElem?_nil] at hc; cases hc), fun i hi => ⟨r, ?_, ?_⟩⟩)
  · rw [zu_ne (by decide : ¬ 1835 = 3188), zu_nk (by decide : ¬ 70 = 71), zu_same]; rfl
  · rw [zu_ne (by decide : ¬ 1835 = 3188), zu_same]; exact hR.2.1
  · have hi : i ≤ 0 := hi
    rw [show i = 0 by omega, zu_same]
  · have hi : i ≤ 0 := hi
    rw [show i = 0 by omega]
    exact hr
theorem k254 {x1 : Int} {g : gS} {T : Nat → Int} {act e k : Nat} {l : List (Nat × Nat × Nat)} (e1 : x1 = e) (hd : 1 ≤ d) (hR : RD I D ho lo) (hD : dOk D) (hO : gOk D act g) (hQ : RQ I T g) (he : e < gM g) (hk : gX g k = aft D l l.length) (hto : eTo D g (gX g k) e) (hl : l.length < 2000) (hK : KX I D l) (h : ∀ (I' : Nat → Nat → Int), FN I I' → KX I' D (l ++ [e3 g e]) → Q (.inl none) (z_cfg t, I', J)) : Go sc d mt_254 0 [vr 1835, vi x1] [] (z_cfg t, I, J) Q := by
  subst e1
  obtain ⟨k1, k2, k3, k4⟩ := hK
  obtain ⟨q1, q2, q3, q4, q5⟩ := hQ
  obtain ⟨a1, a2, a3, a4⟩ := q4 e he
  have hq := hO.2.2.2.2.2 e he
  have hM := hO.2.1
  have hN := hO.1.1
  obtain ⟨r, hr1, hr2⟩ := q5 (tg g e) hto.1
  refine b254_0 ?_
  rw [k1, Int.toNat_natCast, Int.toNat_natCast, a1, a2, a3]
  refine ⟨⟨by omega, by omega⟩, ⟨by omega, by omega⟩, ?_⟩
  generalize hI1 : z_u (z_u (z_u I 3060 l.length ((gE g e).1 : Int)) 3092 l.length ((gE g e).2.1 : Int)) 3124 l.length ((gE g e).2.2.1 : Int) = I1
  have f1 : ∀ a, ¬ a = 3060 → ¬ a = 3092 → ¬ a = 3124 → I1 a = I a := fun a z1 z2 z3 => by rw [← hI1, zu_ne z3, zu_ne z2, zu_ne z1]
  have fn1 : FN I I1 := ⟨fun a _ z2 z3 z4 _ _ => f1 a z2 z3 z4, fun q _ _ => by rw [f1 1835 (by decide) (by decide) (by decide)]⟩
  refine c255 hd (fun d' _ => k255 rfl (hR.fn fn1) hD (by omega) ?_)
  refine b254_63 ?_
  have tge : tg g e = (gE g e).2.2.2 := rfl
  rw [Int.toNat_natCast, Int.toNat_natCast, f1 2932 (by decide) (by decide) (by decide), a4, Int.toNat_natCast, f1 2676 (by decide) (by decide) (by decide), hr1, f1 1835 (by decide) (by decide) (by decide), k1, show ((l.length : Nat) : Int) + 1 = ((l.length + 1 : Nat) : Int) by omega, Int.toNat_natCast]
  refine ⟨⟨by omega, by omega⟩, ⟨by omega, by omega⟩, ⟨by omega, by omega⟩, ⟨by omega, by omega⟩, ?_⟩
  generalize hI2 : z_u (z_u (z_u I1 3156 l.length ((mx (dT D) (dMi D) (gE g e).2.2.1 : Nat) : Int)) 1835 70 ((l.length + 1 : Nat) : Int)) 3188 (l.length + 1) (r : Int) = I2
  have f2 : ∀ a, ¬ a = 1835 → ¬ a = 3156 → ¬ a = 3188 → I2 a = I1 a := fun a z1 z2 z3 => by rw [← hI2, zu_ne z3, zu_ne z1, zu_ne z2]
  have fk : ∀ q, ¬ q = 70 → I2 1835 q = I 1835 q := fun q hq => by rw [← hI2, zu_ne (by decide : ¬ 1835 = 3188), zu_nk hq, zu_ne (by decide : ¬ 1835 = 3156), f1 1835 (by decide) (by decide) (by decide)]
  refine h I2 ⟨fun a z1 z2 z3 z4 z5 z6 => by rw [f2 a z1 z5 z6, f1 a z2 z3 z4], fun q z1 _ => fk q z1⟩ ⟨?_, by rw [fk 71 (by decide)]; exact k2, fun i c hc => ?_, fun i hi => ?_⟩
  · rw [← hI2, zu_ne (by decide : ¬ 1835 = 3188), zu_same, List.length_append]; rfl
  · have E1 : I2 3060 = z_row (I 3060) l.length ((gE g e).1 : Int) := by rw [f2 3060 (by decide) (by decide) (by decide), ← hI1, zu_ne (by decide : ¬ 3060 = 3124), zu_ne (by decide : ¬ 3060 = 3092), zu_row]
    have E2 : I2 3092 = z_row (I 3092) l.length ((gE g e).2.1 : Int) := by rw [f2 3092 (by decide) (by decide) (by decide), ← hI1, zu_ne (by decide : ¬ 3092 = 3124), zu_row, zu_ne (by decide : ¬ 3092 = 3060)]
    have E3 : I2 3124 = z_row (I 3124) l.length ((gE g e).2.2.1 : Int) := by rw [f2 3124 (by decide) (by decide) (by decide), ← hI1, zu_row, zu_ne (by decide : ¬ 3124 = 3092), zu_ne (by decide : ¬ 3124 = 3060)]
    have E4 : I2 3156 = z_row (I 3156) l.length ((mx (dT D) (dMi D) (gE g e).2.2.1 : Nat) : Int) := by rw [← hI2, zu_ne (by decide : ¬ 3156 = 3188), zu_ne (by decide : ¬ 3156 = 1835), zu_row, f1 3156 (by decide) (by decide) (by decide)]
    rw [E1, E2, E3, E4]
    by_cases c2 : i = l.length
    · subst c2
      rw [List.getElem?_append_right (Nat.le_refl _), Nat.sub_self] at hc
      have hc : some (e3 g e) = some c := hc
      cases hc
      rw [zrow_at, zrow_at, zrow_at, zrow_at]
      exact ⟨rfl, rfl, rfl, rfl⟩
    · rw [zrow_ne c2, zrow_ne c2, zrow_ne c2, zrow_ne c2]
      by_cases c4 : i < l.length
      · rw [List.getElem?_append_left c4] at hc
        exact k3 i c hc
      · rw [List.getElem?_eq_none (by rw [List.length_append]; show l.length + 1 ≤ i; omega)] at hc
        cases hc
  · have E5 : I2 3188 = z_row (I 3188) (l.length + 1) (r : Int) := by rw [← hI2, zu_row, zu_ne (by decide : ¬ 3188 = 1835), zu_ne (by decide : ¬ 3188 = 3156), f1 3188 (by decide) (by decide) (by decide)]
    rw [E5]
    rw [List.length_append] at hi
    have hi : i ≤ l.length + 1 := hi
    by_cases c2 : i = l.length + 1
    · subst c2
      rw [zrow_at]
      refine ⟨r, rfl, ?_⟩
      rw [aft_app, ← hk]
      have := hto.2
      rw [this] at hr2
      exact hr2
    · rw [zrow_ne c2, aft_old (by omega)]
      exact k4 i (by omega)
theorem RV.f0 {v : Int} (h : RV I D ho lo) : RV (z_u I 1835 0 v) D ho lo := by
  refine ⟨h.1.fr (fun q hq => zu_nk (by omega)) (fun a ha => zu_ne (by omega)), fun S p q l z1 z2 z3 z4 z5 => ?_, h.2.2⟩
  rw [zu_ne (by decide : ¬ 2612 = 1835)]
  exact h.2.1 S p q l z1 z2 z3 z4 z5
theorem RK.f0 {v : Int} (h : RK I D ho lo) : RK (z_u I 1835 0 v) D ho lo := ⟨h.1.fld ⟨by decide, by decide, by decide⟩, fun z k hk => by rw [zu_ne (by decide : ¬ 2772 = 1835)]; exact h.2 z k hk⟩
theorem h67_f0 {v : Int} (h : I 1835 67 = 0 ∨ (I 1835 67 = 1 ∧ RK I D ho lo)) : (z_u I 1835 0 v) 1835 67 = 0 ∨ ((z_u I 1835 0 v) 1835 67 = 1 ∧ RK (z_u I 1835 0 v) D ho lo) := by
  rw [zu_nk (by decide : ¬ 67 = 0)]
  rcases h with z | ⟨z, y⟩
  · exact Or.inl z
  · exact Or.inr ⟨z, y.f0⟩
theorem RK.fn {I' : Nat → Nat → Int} (h : RK I D ho lo) (f : FN I I') : RK I' D ho lo := by
  have e : ∀ a, (2612 ≤ a ∧ a ≤ 3028) → I' a = I a := fun a ha => f.1 a (by omega) (by omega) (by omega) (by omega) (by omega) (by omega)
  refine ⟨⟨h.1.1.to (fun q hq => f.2 q (by omega) (by omega)) (fun a ha => e a (by omega)), h.1.2.1, fun z i hi => ?_⟩, fun z k hk => ?_⟩
  · rw [e 2708 (by omega)]; exact h.1.2.2 z i hi
  · rw [e 2772 (by omega)]; exact h.2 z k hk
/-- the way of the reference's loop -/
theorem k252 (hd : 8 ≤ d) (hV : RV I D ho lo) (hho : ho < 2147483648) (hlo : lo < 2147483648) (h67 : I 1835 67 = 0 ∨ (I 1835 67 = 1 ∧ RK I D ho lo)) (g : gS) (hg : g = gAll D (acts D (-1)) ho lo) (T : Nat → Int) (hTd : T = dst D g)
    (h : ∀ (I' I1 : Nat → Nat → Int), FZ (z_u I 1835 0 0) I1 → FN I1 I' → RV I' D ho lo → I' 1835 67 = 1 → RK I' D ho lo → ((gSp g = true ∨ T 0 = -1) → I' = I1) → (gSp g = false → ¬ T 0 = -1 → KX I' D ((wyL D g false T 2000 0).map (e3 g))) → Q (.inl (some (vi (if gSp g = true then -2 else if T 0 = -1 then -1 else (((wyL D g false T 2000 0).length : Nat) : Int))))) (z_cfg t, I', J)) :
    Go sc d mt_252 0 [vr 1835, vn, vn] [] (z_cfg t, I, J) Q := by
  have hD := hV.2.2
  refine b252_0 (c239 (by omega) (fun d' _ => k239 (by omega) hV.f0 hho hlo (h67_f0 h67) (fun I1 f1 hV1 h1 hK1 => ?_)))
  rw [← hg]
  cases hs : gSp g with
  | true =>
    rw [if_pos rfl]
    have := h I1 I1 f1 (FN.rf _) hV1 h1 hK1 (fun _ => rfl) (fun z => by rw [hs] at z; cases z)
    rw [hs, if_pos rfl] at this
    exact b252_9 ⟨⟨by decide, by decide⟩, fun _ => this, fun c => absurd rfl c⟩
  | false =>
    rw [if_neg (by decide)]
    have hs' := hs
    rw [hg] at hs'
    have hQ := hK1.q hs'
    rw [← hg, ← hTd] at hQ
    have hO : gOk D (acts D (-1)) g := by rw [hg]; exact hK1.1.2.1
    have hFT := RB.F hK1.1 hs'
    rw [← hg] at hFT
    obtain ⟨hF, hTg⟩ := hFT
    have hN := hO.1
    have hM := hO.2.1
    have hE := gAll_E hs' (by rw [← hg]; exact hO)
    rw [← hg] at hE
    have hT : TP D g false T := by rw [hTd]; exact TP_few (D := D) hTg hN.1
    have hdr : ∀ k, k < gN g → -1 ≤ T k ∧ T k ≤ 2000 := fun k hk => by rw [hTd]; exact dst_in hTg hN.1 hk
    clear hTd
    refine b252_9 ⟨⟨by decide, by decide⟩, fun c => absurd c (by decide), fun _ => ?_⟩
    have hd0 := hdr 0 (by omega)
    rw [hQ.2.1 0 (by omega)]
    refine ⟨⟨by omega, by omega⟩, fun c => ?_, fun c => ?_⟩
    · have := h I1 I1 f1 (FN.rf _) hV1 h1 hK1 (fun _ => rfl) (fun _ z => absurd c z)
      rw [hs, if_neg (by decide), if_pos c] at this
      exact this
    · obtain ⟨r, hr1, hr2⟩ := hQ.2.2.2.2 0 (by omega)
      have hx0 : gX g 0 = dStart D := by rw [hg]; exact gAll_x0
      rw [hr1]
      rw [hx0] at hr2
      refine c253 (by omega) (fun d' _ => k253 rfl hV1.1 hr2 (fun I2 f2 hK2 => b252_37 ?_))
      have loop : ∀ (m k f : Nat) (pre : List Nat) (I3 : Nat → Nat → Int) (v2 : zV), k < gN g → T k = (m : Int) → m ≤ f → pre.length + f = 2000 → FN I1 I3 → KX I3 D (pre.map (e3 g)) → gX g k = aft D (pre.map (e3 g)) (pre.map (e3 g)).length → wyL D g false T 2000 0 = pre ++ wyL D g false T f k → Go sc d mt_252 39 [vr 1835, vi (k : Int), v2] [] (z_cfg t, I3, J) Q := by
        intro m
        induction m with
        | zero =>
          intro k f pre I3 v2 hk hdk hmf hpf f3 hK3 hx hw
          have hQ3 := hQ.fn f3
          rw [wyL_none (nx_zero hD hdk), List.append_nil] at hw
          have := h I3 I1 f1 f3 (hV1.fn f3) (by rw [f3.2 67 (by decide) (by decide)]; exact h1) (hK1.fn f3) (fun z => by
            rcases z with z | z
            · rw [hs] at z; cases z
            · exact absurd z c) (fun _ _ => by rw [hw]; exact hK3)
          rw [hs, if_neg (by decide), if_neg c, hw] at this
          refine b252_39 ?_
          rw [Int.toNat_natCast, hQ3.2.1 k hk, hdk, hK3.1, List.length_map]
          exact ⟨⟨by omega, by omega⟩, ⟨by decide, by decide⟩, fun z => absurd z (by decide), fun _ => this⟩
        | succ m ih =>
          intro k f pre I3 v2 hk hdk hmf hpf f3 hK3 hx hw
          have hQ3 := hQ.fn f3
          obtain ⟨e, hn⟩ := nx_pos hT hk (by omega)
          obtain ⟨he, ht1, ht2⟩ := nx_some hn
          have ht2 : T (tg g e) + 1 = T k := ht2
          have hFk := hF k hk
          refine b252_39 ?_
          rw [Int.toNat_natCast, hQ3.2.1 k hk, hdk, hQ3.2.2.1 k (by omega)]
          refine ⟨⟨by omega, by omega⟩, ⟨by omega, by omega⟩, fun _ => ⟨⟨by omega, by omega⟩, ?_⟩, fun z => by omega⟩
          have inner : ∀ (n e' : Nat), gF g k ≤ e' → e' + n = gF g (k + 1) → nxE D g false T k = (List.range' e' n).find? (fun e => decide (0 ≤ T (tg g e) ∧ T (tg g e) + wE D false g e = T k)) → Go sc d mt_252 55 [vr 1835, vi (k : Int), vi (e' : Int)] [] (z_cfg t, I3, J) Q := by
            intro n
            induction n with
            | zero =>
              intro e' _ _ hx'
              rw [hn] at hx'
              cases hx'
            | succ n ihn =>
              intro e' hlo' he' hx'
              rw [rng_cons, find_cons] at hx'
              have hzN : tg g e' < gN g := hTg k hk e' hlo' (by omega)
              have hdz := hdr _ hzN
              refine b252_55 ?_
              rw [Int.toNat_natCast, Int.toNat_natCast, (hQ3.2.2.2.1 e' (by omega)).2.2.2, Int.toNat_natCast, hQ3.2.1 _ hzN, hQ3.2.1 k hk, hdk]
              refine ⟨⟨by omega, by omega⟩, ⟨by omega, by omega⟩, ⟨by omega, by omega⟩, ⟨by omega, by omega⟩, ⟨by omega, by omega⟩, fun c2 => ?_, fun c2 => ?_⟩
              · have hcond : 0 ≤ T (tg g e') ∧ T (tg g e') + wE D false g e' = T k := by
                  refine ⟨by omega, ?_⟩
                  show T (tg g e') + 1 = T k
                  omega
                rw [if_pos (decide_eq_true hcond), hn] at hx'
                cases hx'
                have hto := (hE k hk).1 e he
                refine c254 (by omega) (fun d' _ => k254 (k := k) (l := pre.map (e3 g)) rfl (by omega) (hV1.1.fn f3) hD hO hQ3 (by omega) hx hto (by rw [List.length_map]; omega) hK3 (fun I4 f4 hK4 => ?_))
                refine b252_88 ?_
                rw [Int.toNat_natCast, ((hQ3.fn f4).2.2.2.1 e (by omega)).2.2.2]
                refine ⟨⟨by omega, by omega⟩, ?_⟩
                have em : (pre ++ [e]).map (e3 g) = pre.map (e3 g) ++ [e3 g e] := by rw [List.map_append]; rfl
                refine ih (tg g e) (f - 1) (pre ++ [e]) I4 _ hzN (by omega) (by omega) (by rw [List.length_append]; show pre.length + 1 + (f - 1) = 2000; omega) (f3.tr f4) (by rw [em]; exact hK4) ?_ ?_
                · rw [em, List.length_append]
                  show gX g (tg g e) = aft D (pre.map (e3 g) ++ [e3 g e]) ((pre.map (e3 g)).length + 1)
                  rw [aft_app, ← hx]
                  exact hto.2
                · rw [hw, show f = (f - 1) + 1 by omega, wyL_some hn, List.append_assoc]
                  rfl
              · rw [if_neg (by
                  intro z
                  have z := (of_decide_eq_true z).2
                  have z : T (tg g e') + 1 = T k := z
                  omega)] at hx'
                rw [show (e' : Int) + 1 = ((e' + 1 : Nat) : Int) by omega]
                exact ihn (e' + 1) (by omega) (by omega) hx'
          exact inner (gF g (k + 1) - gF g k) (gF g k) (Nat.le_refl _) (by omega) rfl
      exact loop (T 0).toNat 0 2000 [] I2 vn (by omega) (by omega) (by omega) rfl f2 hK2 hx0 rfl
end
