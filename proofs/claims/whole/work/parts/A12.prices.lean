/-! ===== the reference: prices ===== -/
def uE (D : tD) (g : gS) (e : Nat) : Int := 100000 * ((mE D g e : Nat) : Int) + 1
theorem uE_in {D : tD} (hD : dOk D) (g : gS) (e : Nat) : 1 ≤ uE D g e ∧ uE D g e ≤ 9900001 := by
  have := (dsm hD (gE g e).2.2.1).2.2.2
  have h : mE D g e = mx (dT D) (dMi D) (gE g e).2.2.1 := rfl
  unfold uE
  omega
/-- R: to a goal; C: how many crossings -/
def PQ (D : tD) (g : gS) (R : Nat → Int) (C : Nat → Nat) : Prop := (∀ k, k < gN g → (R k = 0 ↔ dGoal D (gX g k) = true)) ∧ (∀ k, k < gN g → -1 ≤ R k ∧ (0 ≤ R k → C k < 2000)) ∧ (∀ k e, k < gN g → eIn g k e → 0 ≤ R (tg g e) → 0 ≤ R k ∧ R k ≤ R (tg g e) + uE D g e) ∧ (∀ k, k < gN g → 0 < R k → ∃ e, eIn g k e ∧ 0 ≤ R (tg g e) ∧ R k = R (tg g e) + uE D g e ∧ C k = C (tg g e) + 1)
theorem PQ_of {D : tD} {g : gS} (hTg : tgOk g) (hN : gN g ≤ 2000) : PQ D g (tQ D g 100000) (qC D g) := by
  have u : ∀ e, uE D g e = ((mE D g e * 100000 + 1 : Nat) : Int) := fun e => by unfold uE; omega
  refine ⟨fun k _ => tQ_0 (by decide), fun k hk => ⟨?_, fun h => ?_⟩, fun k e hk he h => ?_, fun k hk h => ?_⟩
  · rcases Classical.em (hop D g k) with h | h
    · rw [tQ_h h]; omega
    · rw [tQ_n h]; omega
  · have := qC_lt hTg hk (tQ_in.mp h)
    omega
  · rw [u]
    exact tQ_up hTg hN (by decide) hk he h
  · obtain ⟨e, e1, e2, e3⟩ := tQ_dn h
    refine ⟨e, e1, e2, by rw [u]; exact e3, ?_⟩
    exact ((tQ_eq hTg hN (by decide) hk e1 e2).mp e3.symm).2
/-- prices on the way down: p passes are through, this one is at k -/
def PV (D : tD) (g : gS) (R : Nat → Int) (C : Nat → Nat) (p k e : Nat) (fl : Bool) (j : Nat → Int) : Prop :=
  (∀ y, y < gN g → -1 ≤ j y ∧ (0 ≤ j y → 0 ≤ R y ∧ R y ≤ j y)) ∧
  (∀ y, y < gN g → ¬ y = k → j y ≤ ((p * 2001 + (gN g - 1 - k) : Nat) : Int) * 9900001) ∧ (j k ≤ ((p * 2001 + (gN g - k) : Nat) : Int) * 9900001) ∧
  (∀ y, y < gN g → 0 ≤ R y → C y ≤ p → j y = R y) ∧ (∀ y, k < y → y < gN g → 0 ≤ R y → C y ≤ p + 1 → j y = R y) ∧
  (∀ e', gF g k ≤ e' → e' < e → 0 ≤ j (tg g e') → 0 ≤ j k ∧ j k ≤ j (tg g e') + uE D g e') ∧
  (fl = false → ∀ y, k < y → y < gN g → ∀ e', eIn g y e' → 0 ≤ j (tg g e') → 0 ≤ j y ∧ j y ≤ j (tg g e') + uE D g e') ∧
  (fl = true → p < 2000)
/-- between two passes -/
def PW (D : tD) (g : gS) (R : Nat → Int) (C : Nat → Nat) (p : Nat) (fl : Bool) (j : Nat → Int) : Prop :=
  (∀ y, y < gN g → (-1 ≤ j y ∧ j y ≤ ((p * 2001 : Nat) : Int) * 9900001) ∧ (0 ≤ j y → 0 ≤ R y ∧ R y ≤ j y)) ∧ (∀ y, y < gN g → 0 ≤ R y → C y ≤ p → j y = R y) ∧
  (fl = false → ∀ y, y < gN g → ∀ e', eIn g y e' → 0 ≤ j (tg g e') → 0 ≤ j y ∧ j y ≤ j (tg g e') + uE D g e') ∧ (fl = true → p ≤ 2000)
section
variable {D : tD} {g : gS} {R : Nat → Int} {C : Nat → Nat}
theorem PW_end {p : Nat} {j : Nat → Int} (hP : PQ D g R C) (hTg : tgOk g) (h0 : ∀ y, y < gN g → R y = 0 → j y = 0) (h : PW D g R C p false j) : ∀ y, y < gN g → j y = R y := by
  have A : ∀ (c y : Nat), y < gN g → 0 ≤ R y → C y ≤ c → j y = R y := by
    intro c
    induction c with
    | zero =>
      intro y hy hR hc
      by_cases z : R y = 0
      · rw [z, h0 y hy z]
      · obtain ⟨e, -, -, -, e4⟩ := hP.2.2.2 y hy (by omega)
        omega
    | succ c ih =>
      intro y hy hR hc
      by_cases z : R y = 0
      · rw [z, h0 y hy z]
      · obtain ⟨e, e1, e2, e3, e4⟩ := hP.2.2.2 y hy (by omega)
        have hz : tg g e < gN g := hTg y hy e e1.1 e1.2
        have hj := ih (tg g e) hz e2 (by omega)
        have h1 := h.2.2.1 rfl y hy e e1 (by omega)
        have h2 := (h.1 y hy).2 h1.1
        omega
  intro y hy
  have h1 := (hP.2.1 y hy).1
  by_cases z : 0 ≤ R y
  · exact A (C y) y hy z (Nat.le_refl _)
  · have h2 := h.1 y hy
    by_cases q : 0 ≤ j y
    · have := h2.2 q; omega
    · omega
/-- one crossing more has been looked at -/
theorem PV_same {p k e : Nat} {fl : Bool} {j : Nat → Int} (h : PV D g R C p k e fl j) (hn : 0 ≤ j (tg g e) → 0 ≤ j k ∧ j k ≤ j (tg g e) + uE D g e) : PV D g R C p k (e + 1) fl j := by
  obtain ⟨h1, h2, h3, h4, h5, h6, h7, h8⟩ := h
  refine ⟨h1, h2, h3, h4, h5, fun e' a b => ?_, h7, h8⟩
  by_cases c : e' = e
  · rw [c]; exact hn
  · exact h6 e' a (by omega)
theorem PV_put {p k e : Nat} {fl : Bool} {j : Nat → Int} {v : Int} (hD : dOk D) (hP : PQ D g R C) (hTg : tgOk g) (hk : k < gN g) (h : PV D g R C p k e fl j) (he : eIn g k e) (hz : 0 ≤ j (tg g e)) (hv : v = j (tg g e) + uE D g e) (hlt : j k < 0 ∨ v < j k) : PV D g R C p k (e + 1) true (z_row j k v) := by
  obtain ⟨h1, h2, h3, h4, h5, h6, h7, h8⟩ := h
  have hu := uE_in hD g e
  have hzN : tg g e < gN g := hTg k hk e he.1 he.2
  have hzk : ¬ tg g e = k := fun q => by rw [q] at hz hv; omega
  have hb := h2 _ hzN hzk
  have hRz := (h1 _ hzN).2 hz
  have hRk := hP.2.2.1 k e hk he hRz.1
  have at0 : z_row j k v k = v := zrow_at _ _ _
  have ne : ∀ y, ¬ y = k → z_row j k v y = j y := fun y hy => zrow_ne hy
  have notfin : ¬ j k = R k := by omega
  refine ⟨fun y hy => ?_, fun y hy hyk => ?_, ?_, fun y hy hR hc => ?_, fun y hky hy hR hc => ?_, fun e' a b hz' => ?_, fun q => (by cases q), fun _ => ?_⟩
  · by_cases c : y = k
    · rw [c, at0]; exact ⟨by omega, fun _ => ⟨hRk.1, by omega⟩⟩
    · rw [ne y c]; exact h1 y hy
  · rw [ne y hyk]; exact h2 y hy hyk
  · rw [at0]; omega
  · by_cases c : y = k
    · rw [c] at hR hc ⊢
      exact absurd (h4 k hk hR hc) notfin
    · rw [ne y c]; exact h4 y hy hR hc
  · rw [ne y (by omega)]; exact h5 y hky hy hR hc
  · have low : v ≤ j k ∨ j k < 0 := by omega
    by_cases c2 : tg g e' = k
    · have := uE_in hD g e'
      rw [c2, at0]
      omega
    · rw [ne _ c2] at hz' ⊢
      rw [at0]
      by_cases c : e' = e
      · rw [c]; omega
      · have := h6 e' a (by omega) hz'
        omega
  · rcases Nat.lt_or_ge p 2000 with q | q
    · exact q
    · have := (hP.2.1 k hk).2 hRk.1
      exact absurd (h4 k hk hRk.1 (by omega)) notfin
/-- the state k is through -/
theorem PV_next {p k : Nat} {fl : Bool} {j : Nat → Int} (hP : PQ D g R C) (hTg : tgOk g) (h0 : ∀ y, y < gN g → R y = 0 → j y = 0) (hk : k < gN g) (h : PV D g R C p k (gF g (k + 1)) fl j) : (∀ y, y < gN g → -1 ≤ j y ∧ (0 ≤ j y → 0 ≤ R y ∧ R y ≤ j y)) ∧ (∀ y, y < gN g → j y ≤ ((p * 2001 + (gN g - k) : Nat) : Int) * 9900001) ∧ (∀ y, y < gN g → 0 ≤ R y → C y ≤ p → j y = R y) ∧ (∀ y, k ≤ y → y < gN g → 0 ≤ R y → C y ≤ p + 1 → j y = R y) ∧ (fl = false → ∀ y, k ≤ y → y < gN g → ∀ e', eIn g y e' → 0 ≤ j (tg g e') → 0 ≤ j y ∧ j y ≤ j (tg g e') + uE D g e') ∧ (fl = true → p < 2000) := by
  obtain ⟨h1, h2, h3, h4, h5, h6, h7, h8⟩ := h
  refine ⟨h1, fun y hy => ?_, h4, fun y hky hy hR hc => ?_, fun q y hky hy e' he' hz => ?_, h8⟩
  · by_cases c : y = k
    · rw [c]; exact h3
    · have := h2 y hy c
      omega
  · by_cases c : y = k
    · subst c
      by_cases z : R y = 0
      · rw [z, h0 y hy z]
      · obtain ⟨e, e1, e2, e3, e4⟩ := hP.2.2.2 y hy (by omega)
        have hz : tg g e < gN g := hTg y hy e e1.1 e1.2
        have hj := h4 (tg g e) hz e2 (by omega)
        have a := h6 e e1.1 e1.2 (by omega)
        have b := (h1 y hy).2 a.1
        omega
    · exact h5 y (by omega) hy hR hc
  · by_cases c : y = k
    · subst c
      exact h6 e' he'.1 he'.2 hz
    · exact h7 q y (by omega) hy e' he' hz
end
theorem zlc_lt {x y : Int} : zlc x y < 0 ↔ x < y := by
  unfold zlc
  split
  · exact ⟨fun _ => by assumption, fun _ => by decide⟩
  · split
    · exact ⟨fun z => absurd z (by decide), fun z => by omega⟩
    · exact ⟨fun z => absurd z (by decide), fun z => by omega⟩
section
variable {sc : mS} {d : Nat} {t : zT} {I J : Nat → Nat → Int} {Q : zR → zW → Prop} {D : tD} {ho lo : Nat}
theorem k257 {g : gS} {act : Nat} {T R : Nat → Int} {C : Nat → Nat} (hd : 1 ≤ d) (hR : RD I D ho lo) (hD : dOk D) (hO : gOk D act g) (hQ : RQ I T g) (hF : ∀ i, i < gN g → gF g i ≤ gF g (i + 1) ∧ gF g (i + 1) ≤ gM g) (hTr : ∀ k, k < gN g → -1 ≤ T k ∧ T k ≤ 2000) (hT0 : ∀ k, k < gN g → (T k = 0 ↔ dGoal D (gX g k) = true)) (hP : PQ D g R C)
    (h : ∀ (J' : Nat → Nat → Int), (∀ a, ¬ a = 2967 → J' a = J a) → (∀ y, y < gN g → J' 2967 y = R y ∧ R y < 100000000000000) → Q (.inl none) (z_cfg t, I, J')) :
    Go sc d mt_257 0 [vr 1835, vn, vn, vn, vn, vn, vn, vn] [] (z_cfg t, I, J) Q := by
  have hTg := gOk_tg hO hF
  have hN := hO.1
  have hM := hO.2.1
  obtain ⟨q1, q2, q3, q4, q5⟩ := hQ
  -- the edges of one state
  have edges : ∀ (p k : Nat), k < gN g → p ≤ 2000 → (∀ (J1 : Nat → Nat → Int) (fl : Bool) (x3 : Int) (v4 v6 : zV), (∀ a, ¬ a = 2967 → J1 a = J a) → (∀ y, y < gN g → R y = 0 → J1 2967 y = 0) → PV D g R C p k (gF g (k + 1)) fl (J1 2967) → Go sc d mt_257 53 [vr 1835, vi ((fl.toNat : Nat) : Int), vi ((k : Int) - 1), vi x3, v4, vn, v6, vn] [] (z_cfg t, I, J1) Q) → ∀ (m e : Nat) (J1 : Nat → Nat → Int) (fl : Bool) (v4 v6 : zV), e + m = gF g (k + 1) → gF g k ≤ e → (∀ a, ¬ a = 2967 → J1 a = J a) → (∀ y, y < gN g → R y = 0 → J1 2967 y = 0) → PV D g R C p k e fl (J1 2967) → Go sc d mt_257 64 [vr 1835, vi ((fl.toNat : Nat) : Int), vi (k : Int), vi (e : Int), v4, vn, v6, vn] [] (z_cfg t, I, J1) Q := by
    intro p k hk hp hend m
    have hFk := hF k hk
    induction m with
    | zero =>
      intro e J1 fl v4 v6 he hlo' f0 h0 hV
      have he : e = gF g (k + 1) := by omega
      subst he
      refine b257_64 ?_
      rw [show ((k : Int) + 1).toNat = k + 1 by omega, q3 (k + 1) (by omega)]
      exact ⟨⟨by omega, by omega⟩, ⟨by omega, by omega⟩, ⟨by omega, by omega⟩, fun c => by omega, fun _ => hend J1 fl _ v4 v6 f0 h0 hV⟩
    | succ m ih =>
      intro e J1 fl v4 v6 he hlo' f0 h0 hV
      have hin : eIn g k e := ⟨hlo', by omega⟩
      have hz : tg g e < gN g := hTg k hk e hin.1 hin.2
      have hu := uE_in hD g e
      have hmE : uE D g e = 100000 * ((mx (dT D) (dMi D) (gE g e).2.2.1 : Nat) : Int) + 1 := rfl
      have hmx := (dsm hD (gE g e).2.2.1).2.2.2
      have hS := (hO.2.2.2.2.2 e (by omega)).2.2.1
      obtain ⟨a1, a2, a3, a4⟩ := q4 e (by omega)
      have hb : ∀ y, y < gN g → J1 2967 y ≤ 100000000000000 := fun y hy => by
        by_cases c : y = k
        · have := hV.2.2.1; rw [c]; omega
        · have := hV.2.1 y hy c; omega
      have hbz := hb _ hz
      have hbk := hb k hk
      have hlz := (hV.1 _ hz).1
      have hlk := (hV.1 k hk).1
      have nx : ∀ (J2 : Nat → Nat → Int) (fl2 : Bool) (x4 : Int) (w6 : zV), (∀ a, ¬ a = 2967 → J2 a = J a) → (∀ y, y < gN g → R y = 0 → J2 2967 y = 0) → PV D g R C p k (e + 1) fl2 (J2 2967) → Go sc d mt_257 157 [vr 1835, vi ((fl2.toNat : Nat) : Int), vi (k : Int), vi (e : Int), vl x4, vn, w6, vn] [] (z_cfg t, I, J2) Q := by
        intro J2 fl2 x4 w6 g0 g1 g2
        refine b257_157 ?_
        rw [show (e : Int) + 1 = ((e + 1 : Nat) : Int) by omega]
        exact ih (e + 1) J2 fl2 _ _ (by omega) (by omega) g0 g1 g2
      refine b257_64 ?_
      rw [show ((k : Int) + 1).toNat = k + 1 by omega, q3 (k + 1) (by omega), Int.toNat_natCast, a4, Int.toNat_natCast, a3]
      refine ⟨⟨by omega, by omega⟩, ⟨by omega, by omega⟩, ⟨by omega, by omega⟩, fun _ => ⟨⟨by omega, by omega⟩, ⟨by omega, by omega⟩, ⟨⟨by omega, by omega⟩, ⟨by decide, by decide⟩⟩, fun c => ?_, fun c => ?_⟩, fun c => by omega⟩
      · have c := zlc_lt.mp c
        exact nx J1 fl _ _ f0 h0 (PV_same hV (fun z => by omega))
      · have c : 0 ≤ J1 2967 (tg g e) := by
          rcases Int.lt_or_le (J1 2967 (tg g e)) 0 with z | z
          · exact absurd (zlc_lt.mpr z) c
          · exact z
        refine c255 hd (fun d' _ => k255 rfl hR hD (by omega) ?_)
        refine b257_114 ?_
        have put : (J1 2967 k < 0 ∨ J1 2967 (tg g e) + uE D g e < J1 2967 k) → Go sc d mt_257 147 [vr 1835, vi ((fl.toNat : Nat) : Int), vi (k : Int), vi (e : Int), vl (J1 2967 (tg g e)), vn, vl (J1 2967 (tg g e) + 100000 * ((mx (dT D) (dMi D) (gE g e).2.2.1 : Nat) : Int) + 1), vn] [] (z_cfg t, I, J1) Q := by
          intro hlt
          refine b257_147 ⟨⟨by omega, by omega⟩, ?_⟩
          rw [Int.toNat_natCast]
          have hpv := PV_put (v := J1 2967 (tg g e) + 100000 * ((mx (dT D) (dMi D) (gE g e).2.2.1 : Nat) : Int) + 1) hD hP hTg hk hV hin c (by rw [hmE]; omega) (by omega)
          have hRk := hP.2.2.1 k e hk hin ((hV.1 _ hz).2 c).1
          refine nx _ true _ _ (fun a ha => by rw [zu_ne ha]; exact f0 a ha) (fun y hy hRy => ?_) (by rw [zu_row]; exact hpv)
          rw [zu_at]
          by_cases z : y = k
          · exfalso
            rw [z] at hRy
            have e0 := h0 k hk hRy
            omega
          · rw [if_neg z]; exact h0 y hy hRy
        rw [Int.toNat_natCast]
        refine ⟨⟨by omega, by omega⟩, ⟨by omega, by omega⟩, ⟨⟨by omega, by omega⟩, ⟨by decide, by decide⟩⟩, fun c2 => put (Or.inl (zlc_lt.mp c2)), fun c2 => ⟨⟨⟨by omega, by omega⟩, ⟨by omega, by omega⟩⟩, fun c3 => put (Or.inr (by have := zlc_lt.mp c3; omega)), fun c3 => ?_⟩⟩
        have n2 : ¬ J1 2967 k < 0 := fun z => c2 (zlc_lt.mpr z)
        have n3 : ¬ J1 2967 (tg g e) + 100000 * ((mx (dT D) (dMi D) (gE g e).2.2.1 : Nat) : Int) + 1 < J1 2967 k := fun z => c3 (zlc_lt.mpr z)
        exact nx J1 fl _ _ f0 h0 (PV_same hV (fun _ => ⟨by omega, by omega⟩))
  -- the states of one pass
  have states : ∀ (p : Nat), p ≤ 2000 → (∀ (J1 : Nat → Nat → Int) (fl : Bool) (v2 v3 v4 v6 : zV), (∀ a, ¬ a = 2967 → J1 a = J a) → (∀ y, y < gN g → R y = 0 → J1 2967 y = 0) → PW D g R C (p + 1) fl (J1 2967) → Go sc d mt_257 40 [vr 1835, vi ((fl.toNat : Nat) : Int), v2, v3, v4, vn, v6, vn] [] (z_cfg t, I, J1) Q) → ∀ (c : Nat) (J1 : Nat → Nat → Int) (fl : Bool) (v3 v4 v6 : zV), c ≤ gN g → (∀ a, ¬ a = 2967 → J1 a = J a) → (∀ y, y < gN g → R y = 0 → J1 2967 y = 0) → ((∀ y, y < gN g → -1 ≤ J1 2967 y ∧ (0 ≤ J1 2967 y → 0 ≤ R y ∧ R y ≤ J1 2967 y)) ∧ (∀ y, y < gN g → J1 2967 y ≤ ((p * 2001 + (gN g - c) : Nat) : Int) * 9900001) ∧ (∀ y, y < gN g → 0 ≤ R y → C y ≤ p → J1 2967 y = R y) ∧ (∀ y, c ≤ y → y < gN g → 0 ≤ R y → C y ≤ p + 1 → J1 2967 y = R y) ∧ (fl = false → ∀ y, c ≤ y → y < gN g → ∀ e', eIn g y e' → 0 ≤ J1 2967 (tg g e') → 0 ≤ J1 2967 y ∧ J1 2967 y ≤ J1 2967 (tg g e') + uE D g e') ∧ (fl = true → p < 2000)) → Go sc d mt_257 53 [vr 1835, vi ((fl.toNat : Nat) : Int), vi ((c : Int) - 1), v3, v4, vn, v6, vn] [] (z_cfg t, I, J1) Q := by
    intro p hp hend c
    induction c with
    | zero =>
      intro J1 fl v3 v4 v6 _ f0 h0 ⟨g1, g2, g3, g4, g5, g6⟩
      refine b257_53 ⟨⟨by omega, by omega⟩, fun _ => hend J1 fl _ _ _ _ f0 h0 ⟨fun y hy => ⟨⟨(g1 y hy).1, ?_⟩, (g1 y hy).2⟩, fun y hy hR hc => g4 y (by omega) hy hR hc, fun q y hy => g5 q y (by omega) hy, fun q => by have := g6 q; omega⟩, fun z => by omega⟩
      have := g2 y hy
      omega
    | succ c ih =>
      intro J1 fl v3 v4 v6 hc f0 h0 ⟨g1, g2, g3, g4, g5, g6⟩
      have hFk := hF c (by omega)
      refine b257_53 ?_
      rw [show (((c + 1 : Nat) : Int) - 1) = (c : Int) by omega, Int.toNat_natCast, q3 c (by omega)]
      refine ⟨⟨by omega, by omega⟩, fun z => by omega, fun _ => ⟨⟨by omega, by omega⟩, ?_⟩⟩
      refine edges p c (by omega) hp (fun J2 fl2 x3 w4 w6 k0 k1 k2 => ?_) (gF g (c + 1) - gF g c) (gF g c) J1 fl _ _ (by omega) (Nat.le_refl _) f0 h0 ⟨g1, fun y hy _ => ?_, ?_, g3, fun y hky hy hR hc' => g4 y (by omega) hy hR hc', fun e' a b => by omega, fun q y hky hy => g5 q y (by omega) hy, g6⟩
      · exact ih J2 fl2 _ _ _ (by omega) k0 k1 (PV_next hP hTg k1 (by omega) k2)
      · have := g2 y hy
        rw [show gN g - 1 - c = gN g - (c + 1) by omega]
        exact this
      · have := g2 c (by omega)
        omega
  have outer : ∀ (m p : Nat) (J1 : Nat → Nat → Int) (fl : Bool) (v2 v3 v4 v6 : zV), p + m = 2001 → (∀ a, ¬ a = 2967 → J1 a = J a) → (∀ y, y < gN g → R y = 0 → J1 2967 y = 0) → PW D g R C p fl (J1 2967) → Go sc d mt_257 40 [vr 1835, vi ((fl.toNat : Nat) : Int), v2, v3, v4, vn, v6, vn] [] (z_cfg t, I, J1) Q := by
    intro m
    induction m with
    | zero =>
      intro p J1 fl v2 v3 v4 v6 hm f0 h0 hW
      cases fl with
      | true => have := hW.2.2.2 rfl; omega
      | false =>
        have he := PW_end hP hTg h0 hW
        exact b257_40 ⟨⟨by decide, by decide⟩, fun _ => h J1 f0 (fun y hy => ⟨he y hy, by have := (hW.1 y hy).1.2; rw [he y hy] at this; omega⟩), fun z => absurd rfl z⟩
    | succ m ih =>
      intro p J1 fl v2 v3 v4 v6 hm f0 h0 hW
      cases fl with
      | false =>
        have he := PW_end hP hTg h0 hW
        exact b257_40 ⟨⟨by decide, by decide⟩, fun _ => h J1 f0 (fun y hy => ⟨he y hy, by have := (hW.1 y hy).1.2; rw [he y hy] at this; omega⟩), fun z => absurd rfl z⟩
      | true =>
        refine b257_40 ⟨⟨by decide, by decide⟩, fun z => absurd z (by decide), fun _ => ?_⟩
        rw [q1]
        exact states p (by omega) (fun J2 fl2 w2 w3 w4 w6 k0 k1 k2 => ih (p + 1) J2 fl2 _ _ _ _ (by omega) k0 k1 k2) (gN g) J1 false _ _ _ (Nat.le_refl _) f0 h0 ⟨fun y hy => ⟨(hW.1 y hy).1.1, (hW.1 y hy).2⟩, fun y hy => by rw [Nat.sub_self, Nat.add_zero]; exact (hW.1 y hy).1.2, hW.2.1, fun y a b => by omega, fun _ y a b => by omega, fun z => by cases z⟩
  have init : ∀ (m k : Nat) (J1 : Nat → Nat → Int), k + m = gN g → (∀ a, ¬ a = 2967 → J1 a = J a) → (∀ y, y < k → J1 2967 y = if T y = 0 then 0 else -1) → Go sc d mt_257 2 [vr 1835, vi (k : Int), vn, vn, vn, vn, vn, vn] [] (z_cfg t, I, J1) Q := by
    intro m
    induction m with
    | zero =>
      intro k J1 hm f0 hj
      have hval : ∀ y, y < gN g → J1 2967 y = if T y = 0 then 0 else -1 := fun y hy => hj y (by omega)
      have hg0 : ∀ y, y < gN g → (T y = 0 ↔ R y = 0) := fun y hy => (hT0 y hy).trans (hP.1 y hy).symm
      refine b257_2 ?_
      rw [q1]
      refine ⟨⟨by omega, by omega⟩, ⟨by omega, by omega⟩, fun z => by omega, fun _ => outer 2001 0 J1 true _ _ _ _ (by omega) f0 (fun y hy hRy => ?_) ⟨fun y hy => ?_, fun y hy hR hc => ?_, fun z => (by cases z), fun _ => by omega⟩⟩
      · rw [hval y hy, if_pos ((hg0 y hy).mpr hRy)]
      · rw [hval y hy]
        by_cases z : T y = 0
        · rw [if_pos z]
          have := (hg0 y hy).mp z
          exact ⟨⟨by decide, by decide⟩, fun _ => by omega⟩
        · rw [if_neg z]
          exact ⟨⟨by decide, by decide⟩, fun q => absurd q (by decide)⟩
      · by_cases z : R y = 0
        · rw [hval y hy, if_pos ((hg0 y hy).mpr z), z]
        · obtain ⟨e, -, -, -, e4⟩ := hP.2.2.2 y hy (by omega)
          omega
    | succ m ih =>
      intro k J1 hm f0 hj
      have hTk := hTr k (by omega)
      have go : ∀ v : Int, v = (if T k = 0 then 0 else -1) → Go sc d mt_257 31 [vr 1835, vi (k : Int), vn, vn, vn, vn, vn, vn] [vl v, vi (k : Int), vr 2967] (z_cfg t, I, J1) Q := by
        intro v hv
        refine b257_31 ⟨⟨by omega, by omega⟩, ?_⟩
        rw [Int.toNat_natCast, show (k : Int) + 1 = ((k + 1 : Nat) : Int) by omega]
        refine ih (k + 1) _ (by omega) (fun a ha => by rw [zu_ne ha]; exact f0 a ha) (fun y hy => ?_)
        rw [zu_at]
        by_cases z : y = k
        · rw [if_pos z, z]; exact hv
        · rw [if_neg z]; exact hj y (by omega)
      refine b257_2 ?_
      rw [q1, Int.toNat_natCast, q2 k (by omega)]
      refine ⟨⟨by omega, by omega⟩, ⟨by omega, by omega⟩, fun _ => ⟨⟨by omega, by omega⟩, ⟨by omega, by omega⟩, fun c => go 0 (by rw [if_pos c]), fun c => go (-1) (by rw [if_neg c])⟩, fun z => by omega⟩
  exact b257_0 (init (gN g) 0 J (by omega) (fun _ _ => rfl) (fun y hy => by omega))
end
