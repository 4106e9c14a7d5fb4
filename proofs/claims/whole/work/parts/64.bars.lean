/-! ===== which laws bar a group ===== -/
def dGoes (D : tD) (k p : Nat) : Bool := if dSc D k = -1 then true else if dSc D k = -2 then decide (¬ p = dS D) else if dSc D k = -3 then decide (p = dS D) else decide ((p : Int) = dSc D k)
def dBar0 (D : tD) (S p q l : Nat) : Nat := msk (dL D) (fun k => dGoes D k p && decide (¬ wr (cval D k S p q l) = 0))
def dBars (D : tD) (S p nb l : Nat) : Nat := if S = 0 then 0 else dBar0 D S p (if p = dS D then 1 else nb) l
theorem msk_or {f : Nat → Bool} {k : Nat} (h : f k = true) : msk k f ||| 2 ^ k = msk (k + 1) f := by
  apply Nat.eq_of_testBit_eq
  intro i
  rw [Nat.testBit_or, msk_bit, msk_bit, Nat.testBit_two_pow]
  by_cases h1 : i < k
  · simp [h1, Nat.lt_succ_of_lt h1, show ¬ k = i by omega]
  · by_cases h2 : i = k
    · subst h2; simp [h]
    · simp [h1, show ¬ i < k + 1 by omega, show ¬ k = i by omega]
theorem msk_no {f : Nat → Bool} {k : Nat} (h : f k = false) : msk k f = msk (k + 1) f := by
  show _ = msk k f + (f k).toNat * 2 ^ k
  rw [h]
  simp
theorem dBar0_lt {D : tD} (hD : dOk D) (S p q l : Nat) : dBar0 D S p q l < 4096 := by
  have h1 := msk_lt (dL D) (fun k => dGoes D k p && decide (¬ wr (cval D k S p q l) = 0))
  have h2 : 2 ^ dL D ≤ 2 ^ 12 := Nat.pow_le_pow_right (by omega) hD.2.2.2.1
  exact Nat.lt_of_lt_of_le h1 h2
theorem dBars_lt {D : tD} (hD : dOk D) (S p q l : Nat) : dBars D S p q l < 4096 := by
  unfold dBars
  split
  · omega
  · exact dBar0_lt hD _ _ _ _
/-- what the class keeps of groups asked before -/
def KN (I : Nat → Nat → Int) (D : tD) : Prop := ∀ S p q l, 0 < S → S ≤ dAll D → p ≤ dS D → q ≤ 2 → l ≤ 1 → I 884 (((p * 3 + q) * 2 + l) * 256 + S) = -1 ∨ I 884 (((p * 3 + q) * 2 + l) * 256 + S) = dBar0 D S p q l
def RU (t : zT) (I : Nat → Nat → Int) (D : tD) : Prop := CD (t_rb t) I D ∧ RW I D ∧ KN I D ∧ dOk D
def FB (I I' : Nat → Nat → Int) : Prop := ∀ a, ¬ a = 884 → ¬ a = 1044 → I' a = I a
theorem FB.rf (I : Nat → Nat → Int) : FB I I := fun _ _ _ => rfl
theorem FB.tr {I I' I2 : Nat → Nat → Int} (h1 : FB I I') (h2 : FB I' I2) : FB I I2 := fun a ha hb => (h2 a ha hb).trans (h1 a ha hb)
theorem FB.of {I I' : Nat → Nat → Int} (h : ∀ a, ¬ a = 1044 → I' a = I a) : FB I I' := fun a _ hb => h a hb
theorem CD.fb {b : Bool} {I I' : Nat → Nat → Int} {D : tD} (h : CD b I D) (hf : FB I I') : CD b I' D := h.fr (hf _ (by have := zmd_lt b; omega) (by have := zmd_lt b; omega)) (fun k => hf _ (by have := zmf_lt b k; omega) (by have := zmf_lt b k; omega))
theorem RW.fb {I I' : Nat → Nat → Int} {D : tD} (h : RW I D) (hf : FB I I') : RW I' D := fun S hS => by
  rw [hf 916 (by decide) (by decide), hf 948 (by decide) (by decide), hf 980 (by decide) (by decide), hf 1012 (by decide) (by decide)]
  exact h S hS
section
variable {sc : mS} {d : Nat} {t : zT} {I J : Nat → Nat → Int} {Q : zR → zW → Prop} {D : tD}
theorem k34 {x1 x2 : Int} {k p : Nat} (e1 : x1 = k) (e2 : x2 = p) (hC : CD (t_rb t) I D) (hD : dOk D) (hk : k < dL D) (hp : p ≤ dS D) (h : Q (.inl (some (vi ((dGoes D k p).toNat)))) (z_cfg t, I, J)) : Go sc d mt_34 0 [vr 839, vi x1, vi x2, vn] [] (z_cfg t, I, J) Q := by
  subst e1 e2
  have hL := hD.2.2.2.1
  have hS := hD.1
  have e : I (z_mf (t_rb t) 13) ((k : Int)).toNat = dSc D k := hC.2.2.2.2.2.2.2.2.1 k hk
  obtain ⟨q1, -, -⟩ := hD.2.2.2.2.2.2.2.2 k hk
  refine b34_0 ?_
  rw [e]
  refine ⟨⟨by omega, by omega⟩, fun c => by omega, fun _ => ⟨fun _ => ?_, fun c => by omega⟩⟩
  refine b34_23 ?_
  rw [hC.1]
  unfold dGoes at h
  refine ⟨⟨by omega, by omega⟩, fun c => ?_, fun c => ⟨fun c2 => ⟨⟨by omega, by omega⟩, ⟨by omega, by omega⟩, fun c3 => ?_, fun c3 => ?_⟩, fun c2 => ⟨fun c3 => ⟨⟨by omega, by omega⟩, ⟨by omega, by omega⟩, fun c4 => ?_, fun c4 => ?_⟩, fun c3 => ⟨⟨by omega, by omega⟩, fun c4 => ?_, fun c4 => ?_⟩⟩⟩⟩
  · rw [if_pos c] at h; exact h
  · rw [if_neg c, if_pos c2, decide_eq_false (fun z => z (by omega))] at h; exact h
  · rw [if_neg c, if_pos c2, decide_eq_true (by omega)] at h; exact h
  · rw [if_neg c, if_neg c2, if_pos c3, decide_eq_true (by omega)] at h; exact h
  · rw [if_neg c, if_neg c2, if_pos c3, decide_eq_false (by omega)] at h; exact h
  · rw [if_neg c, if_neg c2, if_neg c3, decide_eq_true c4] at h; exact h
  · rw [if_neg c, if_neg c2, if_neg c3, decide_eq_false c4] at h; exact h
theorem k33loop {S p q l : Nat} {x3 : Int} (hd : 2 ≤ d) (hU : RU t I D) (hS0 : 0 < S) (hS : S ≤ dAll D) (hp : p ≤ dS D) (hq : q ≤ 2) (hl : l ≤ 1) (h : ∀ I', FB I I' → RU t I' D → Q (.inl (some (vi (dBar0 D S p q l)))) (z_cfg t, I', J)) :
    ∀ (m k : Nat) (I1 : Nat → Nat → Int), k + m = dL D → (∀ a, ¬ a = 1044 → I1 a = I a) → Go sc d mt_33 82 [vr 839, vi (S : Int), vi (p : Int), vi x3, vi (l : Int), vi (q : Int), vi ((((p * 3 + q) * 2 + l) * 256 + S : Nat) : Int), vi ((msk k (fun k => dGoes D k p && decide (¬ wr (cval D k S p q l) = 0)) : Nat) : Int), vi (k : Int)] [] (z_cfg t, I1, J) Q := by
  obtain ⟨hC, hR, hK, hD⟩ := hU
  have hL := hD.2.2.2.1
  have hSS := hD.1
  have hA := dAll_lt hD
  intro m
  induction m with
  | zero =>
    intro k I1 hk hF
    have hk2 : k = dL D := by omega
    subst hk2
    have hC1 := hC.fb (FB.of hF)
    refine b33_82 ?_
    rw [hC1.2.2.2.2.1, wrn (by omega)]
    refine ⟨fun c => by omega, fun _ => ⟨⟨by omega, by omega⟩, ?_⟩⟩
    rw [Int.toNat_natCast, zu_same]
    have hF2 : FB I (z_u I1 884 (((p * 3 + q) * 2 + l) * 256 + S) (dBar0 D S p q l : Nat)) := fun a ha hb => by
      rw [zu_ne ha]
      exact hF a hb
    refine h _ hF2 ⟨hC.fb hF2, hR.fb hF2, fun S' p' q' l' z1 z2 z3 z4 z5 => ?_, hD⟩
    rw [zu_at]
    by_cases hx : ((p' * 3 + q') * 2 + l') * 256 + S' = ((p * 3 + q) * 2 + l) * 256 + S
    · rw [if_pos hx]
      have w1 : S' = S := by omega
      have w2 : l' = l := by omega
      have w3 : q' = q := by omega
      have w4 : p' = p := by omega
      subst w1 w2 w3 w4
      exact Or.inr rfl
    · rw [if_neg hx, hF 884 (by decide)]
      exact hK S' p' q' l' z1 z2 z3 z4 z5
  | succ m ih =>
    intro k I1 hk hF
    have hC1 := hC.fb (FB.of hF)
    have hR1 := hR.fb (FB.of hF)
    refine b33_82 ?_
    rw [hC1.2.2.2.2.1, wrn (by omega), wrn (by omega)]
    refine ⟨fun _ => ?_, fun c => by omega⟩
    refine c34 (by omega) (fun d' _ => k34 rfl rfl hC1 hD (by omega) hp ?_)
    have key : ∀ (I2 : Nat → Nat → Int) (x : Int), (∀ a, ¬ a = 1044 → I2 a = I a) → x = ((msk (k + 1) (fun k => dGoes D k p && decide (¬ wr (cval D k S p q l) = 0)) : Nat) : Int) → Go sc d mt_33 128 [vr 839, vi (S : Int), vi (p : Int), vi x3, vi (l : Int), vi (q : Int), vi ((((p * 3 + q) * 2 + l) * 256 + S : Nat) : Int), vi x, vi (k : Int)] [] (z_cfg t, I2, J) Q := by
      intro I2 x hF2 hx
      subst hx
      exact b33_128 (ih (k + 1) I2 (by omega) hF2)
    have hmlt : msk k (fun k => dGoes D k p && decide (¬ wr (cval D k S p q l) = 0)) < 4096 := by
      have h1 := msk_lt k (fun k => dGoes D k p && decide (¬ wr (cval D k S p q l) = 0))
      have h2 : 2 ^ k ≤ 2 ^ 12 := Nat.pow_le_pow_right (by omega) (by omega)
      omega
    refine b33_101 ?_
    cases hg : dGoes D k p with
    | false =>
      refine ⟨fun _ => key I1 _ hF ?_, fun c => absurd rfl c⟩
      rw [msk_no (f := fun k => dGoes D k p && decide (¬ wr (cval D k S p q l) = 0)) (by show (dGoes D k p && _) = false; rw [hg]; rfl)]
    | true =>
      refine ⟨fun c => absurd c (by decide), fun _ => ?_⟩
      refine c35 (by omega) (fun d' _ => k35 rfl rfl rfl rfl rfl (by omega) hC1 hD (by omega) hS hR1 (fun I2 hF2 => ?_))
      have hF3 : ∀ a, ¬ a = 1044 → I2 a = I a := fun a ha => (hF2 a ha).trans (hF a ha)
      refine b33_116 ⟨fun c => key I2 _ hF3 ?_, fun c => key I2 _ hF3 ?_⟩
      · rw [msk_no (f := fun k => dGoes D k p && decide (¬ wr (cval D k S p q l) = 0)) (by show (dGoes D k p && _) = false; rw [hg, decide_eq_false (fun z => z c)]; rfl)]
      · have h2 : 2 ^ k ≤ 2 ^ 12 := Nat.pow_le_pow_right (by omega) (by omega)
        have e1 : zshl 1 (k : Int) = ((1 * 2 ^ k : Nat) : Int) := zshl_n (x := 1) (by omega) (by omega)
        rw [e1, Nat.one_mul, zor_n (by omega) (by omega), msk_or (f := fun k => dGoes D k p && decide (¬ wr (cval D k S p q l) = 0)) (by show (dGoes D k p && _) = true; rw [hg, decide_eq_true c]; rfl)]
theorem k33 {x1 x2 x3 x4 : Int} {S p nb l : Nat} (e1 : x1 = S) (e2 : x2 = p) (e3 : x3 = nb) (e4 : x4 = l) (hd : 2 ≤ d) (hU : RU t I D) (hS : S ≤ dAll D) (hp : p ≤ dS D) (hnb : nb ≤ 2) (hl : l ≤ 1) (h : ∀ I', FB I I' → RU t I' D → Q (.inl (some (vi (dBars D S p nb l)))) (z_cfg t, I', J)) : Go sc d mt_33 0 [vr 839, vi x1, vi x2, vi x3, vi x4, vn, vn, vn, vn] [] (z_cfg t, I, J) Q := by
  subst e1 e2 e3 e4
  obtain ⟨hC, hR, hK, hD⟩ := hU
  have hSS := hD.1
  have hA := dAll_lt hD
  have key : ∀ q : Nat, q ≤ 2 → q = (if p = dS D then 1 else nb) → Go sc d mt_33 16 [vr 839, vi (S : Int), vi (p : Int), vi (nb : Int), vi (l : Int), vn, vn, vn, vn] [vi (q : Int)] (z_cfg t, I, J) Q := by
    intro q hq e
    refine b33_16 ?_
    rw [wrn (by omega)]
    have eix : (((((p : Int) * 3) + (q : Int)) * 2) + (l : Int)) * 256 + (S : Int) = ((((p * 3 + q) * 2 + l) * 256 + S : Nat) : Int) := by omega
    rw [eix, wrn (by omega), Int.toNat_natCast]
    unfold dBars at h
    refine ⟨fun h0 => ⟨fun _ => ⟨fun c => by omega, fun _ => ⟨fun _ => ⟨⟨by omega, by omega⟩, fun c => ?_, fun c => ?_⟩, fun c => by omega⟩⟩, fun c => by omega⟩, fun c => ?_⟩
    · rw [if_neg (by omega), ← e] at h
      exact k33loop hd ⟨hC, hR, hK, hD⟩ (by omega) hS hp hq hl h (dL D) 0 I (by omega) (fun a _ => rfl)
    · rw [if_neg (by omega), ← e] at h
      rcases hK S p q l (by omega) hS hp hq hl with z | z
      · rw [z] at c; exact absurd rfl c
      · rw [z]
        exact h I (FB.rf I) ⟨hC, hR, hK, hD⟩
    · rw [if_pos (by omega)] at h
      exact h I (FB.rf I) ⟨hC, hR, hK, hD⟩
  refine b33_0 ?_
  rw [hC.1, wrn (by omega), wrn (by omega)]
  refine ⟨fun c => key 1 (by omega) (by rw [if_pos (by omega)]), fun c => key nb hnb (by rw [if_neg (by omega)])⟩
theorem k24 (hU : RU t I D) (h : Q (.inl (some (vi ((2 ^ dL D - 1 : Nat) : Int)))) (z_cfg t, I, J)) : Go sc d mt_24 0 [vr 839] [] (z_cfg t, I, J) Q := by
  obtain ⟨hC, -, -, hD⟩ := hU
  refine b24_0 ?_
  have h8 := hD.2.2.2.1
  have h1 : 2 ^ dL D ≤ 2 ^ 12 := Nat.pow_le_pow_right (by omega) h8
  have h2 := Nat.two_pow_pos (dL D)
  have e : zshl 1 (dL D : Int) = ((1 * 2 ^ dL D : Nat) : Int) := zshl_n (x := 1) (by omega) (by omega)
  rw [hC.2.2.2.2.1, e, show ((1 * 2 ^ dL D : Nat) : Int) - 1 = ((2 ^ dL D - 1 : Nat) : Int) by omega]
  exact h
theorem k29 {x1 : Int} {S : Nat} (e1 : x1 = S) (hR : RW I D) (hD : dOk D) (hS : S ≤ dAll D) (h : Q (.inl (some (vi (sm (dT D) (dRo D) S)))) (z_cfg t, I, J)) : Go sc d mt_29 0 [vr 839, vi x1] [] (z_cfg t, I, J) Q := by
  subst e1
  have hA := dAll_lt hD
  refine b29_0 ⟨⟨by omega, by omega⟩, fun c => by omega, fun _ => ⟨fun _ => ?_, fun c => by omega⟩⟩
  rw [Int.toNat_natCast, (hR S hS).2.1]
  exact h
theorem k30 {x1 : Int} {S : Nat} (e1 : x1 = S) (hR : RW I D) (hD : dOk D) (hS : S ≤ dAll D) (h : Q (.inl (some (vi (sm (dT D) (fun _ => 1) S)))) (z_cfg t, I, J)) : Go sc d mt_30 0 [vr 839, vi x1] [] (z_cfg t, I, J) Q := by
  subst e1
  have hA := dAll_lt hD
  refine b30_0 ⟨⟨by omega, by omega⟩, fun c => by omega, fun _ => ⟨fun _ => ?_, fun c => by omega⟩⟩
  rw [Int.toNat_natCast, (hR S hS).1]
  exact h
theorem k31 {x1 : Int} {S : Nat} (e1 : x1 = S) (hR : RW I D) (hD : dOk D) (hS : S ≤ dAll D) (h : Q (.inl (some (vi (sm (dT D) (dWt D) S)))) (z_cfg t, I, J)) : Go sc d mt_31 0 [vr 839, vi x1] [] (z_cfg t, I, J) Q := by
  subst e1
  have hA := dAll_lt hD
  refine b31_0 ⟨⟨by omega, by omega⟩, fun c => by omega, fun _ => ⟨fun _ => ?_, fun c => by omega⟩⟩
  rw [Int.toNat_natCast, (hR S hS).2.2.1]
  exact h
theorem k66 {x1 : Int} {S : Nat} (e1 : x1 = S) (hR : RW I D) (hD : dOk D) (hS : S ≤ dAll D) (h : Q (.inl (some (vi (mx (dT D) (dMi D) S)))) (z_cfg t, I, J)) : Go sc d mt_66 0 [vr 839, vi x1] [] (z_cfg t, I, J) Q := by
  subst e1
  have hA := dAll_lt hD
  refine b66_0 ⟨⟨by omega, by omega⟩, fun c => by omega, fun _ => ⟨fun _ => ?_, fun c => by omega⟩⟩
  rw [Int.toNat_natCast, (hR S hS).2.2.2]
  exact h
theorem sm_le {n B : Nat} {w : Nat → Nat} (S : Nat) (h : ∀ i, i < n → w i ≤ B) : sm n w S ≤ n * B := by
  induction n with
  | zero => simp [sm]
  | succ k ih =>
    have h1 := ih (fun i hi => h i (by omega))
    have h2 := h k (by omega)
    show sm k w S + (if S.testBit k then w k else 0) ≤ (k + 1) * B
    rw [Nat.succ_mul]
    split <;> omega
theorem mx_le {n B : Nat} {w : Nat → Nat} (S : Nat) (h : ∀ i, i < n → w i ≤ B) : mx n w S ≤ B := by
  induction n with
  | zero => exact Nat.zero_le _
  | succ k ih =>
    have h1 := ih (fun i hi => h i (by omega))
    have h2 := h k (by omega)
    show max (mx k w S) (if S.testBit k then w k else 0) ≤ B
    refine Nat.max_le.mpr ⟨h1, ?_⟩
    split <;> omega
theorem dsm (hD : dOk D) (S : Nat) : sm (dT D) (fun _ => 1) S ≤ 8 ∧ sm (dT D) (dRo D) S ≤ 8 ∧ sm (dT D) (dWt D) S ≤ 792 ∧ mx (dT D) (dMi D) S ≤ 99 := by
  have hn := hD.2.1
  have hw := hD.2.2.2.2.2.1
  have h1 := sm_le (n := dT D) (B := 1) (w := fun _ => 1) S (fun i _ => Nat.le_refl _)
  have h2 := sm_le (n := dT D) (B := 1) (w := dRo D) S (fun i _ => by unfold dRo; split <;> omega)
  have h3 := sm_le (n := dT D) (B := 99) (w := dWt D) S (fun i hi => (hw i hi).1)
  have h4 := mx_le (n := dT D) (B := 99) (w := dMi D) S (fun i hi => (hw i hi).2.1)
  omega
/-- a set that may go aboard, but for the laws -/
def dFits (D : tD) (S ho lo : Nat) : Bool := decide (0 < sm (dT D) (dRo D) S) && (decide (sm (dT D) (fun _ => 1) S ≤ ho) && decide (sm (dT D) (dWt D) S ≤ lo))
theorem k28 {x1 x2 x3 : Int} {S ho lo : Nat} (e1 : x1 = S) (e2 : x2 = ho) (e3 : x3 = lo) (hd : 1 ≤ d) (hR : RW I D) (hD : dOk D) (hS : S ≤ dAll D) (hh : ho < 2147483648) (hl : lo < 2147483648) (h : Q (.inl (some (vi ((dFits D S ho lo).toNat)))) (z_cfg t, I, J)) : Go sc d mt_28 0 [vr 839, vi x1, vi x2, vi x3] [] (z_cfg t, I, J) Q := by
  subst e1 e2 e3
  obtain ⟨g1, g2, g3, -⟩ := dsm hD S
  unfold dFits at h
  refine b28_0 (c29 hd (fun d' _ => k29 rfl hR hD hS ?_))
  refine b28_5 ⟨⟨by omega, by omega⟩, fun c => ?_, fun c => ?_⟩
  · rw [decide_eq_true (by omega : 0 < sm (dT D) (dRo D) S), Bool.true_and] at h
    refine c30 hd (fun d' _ => k30 rfl hR hD hS ?_)
    refine b28_13 ⟨⟨by omega, by omega⟩, ⟨by omega, by omega⟩, fun c => ?_, fun c => ?_⟩
    · rw [decide_eq_false (by omega : ¬ sm (dT D) (fun _ => 1) S ≤ ho), Bool.false_and] at h; exact h
    · rw [decide_eq_true (by omega : sm (dT D) (fun _ => 1) S ≤ ho), Bool.true_and] at h
      refine c31 hd (fun d' _ => k31 rfl hR hD hS ?_)
      refine b28_22 ⟨⟨by omega, by omega⟩, ⟨by omega, by omega⟩, fun c => ?_, fun c => ?_⟩
      · rw [decide_eq_false (by omega)] at h; exact h
      · rw [decide_eq_true (by omega)] at h; exact h
  · rw [decide_eq_false (by omega : ¬ 0 < sm (dT D) (dRo D) S), Bool.false_and] at h; exact h
/-- united -/
def orN (n : Nat) (f : Nat → Nat) : Nat := match n with
  | 0 => 0
  | k + 1 => orN k f ||| f k
theorem orN_lt {n B : Nat} {f : Nat → Nat} (h : ∀ i, i < n → f i < 2 ^ B) : orN n f < 2 ^ B := by
  induction n with
  | zero => exact Nat.two_pow_pos B
  | succ k ih => exact Nat.or_lt_two_pow (ih (fun i hi => h i (by omega))) (h k (by omega))
def dShB (D : tD) (s p : Nat) : Nat := dBars D (lash s p (dT D)) p (cntb (dB D) s p) (dLampAt D s p)
def dShores (D : tD) (s : Nat) : Nat := orN (dS D) (dShB D s)
theorem lash_le {s p : Nat} : lash s p (dT D) ≤ dAll D := by
  have := lash_lt s p (dT D)
  unfold dAll
  omega
theorem dLampAt_le (s p : Nat) : dLampAt D s p ≤ 1 := by
  unfold dLampAt
  split
  · omega
  · split <;> omega
theorem k42loop {s : Nat} (hd : 3 ≤ d) (hs : s < 4194304) (h : ∀ I', FB I I' → RU t I' D → Q (.inl (some (vi (dShores D s)))) (z_cfg t, I', J)) : ∀ (m p : Nat) (I1 : Nat → Nat → Int) (v4 : zV), p + m = dS D → FB I I1 → RU t I1 D → Go sc d mt_42 4 [vr 839, vi (s : Int), vi ((orN p (dShB D s) : Nat) : Int), vi (p : Int), v4] [] (z_cfg t, I1, J) Q := by
  intro m
  induction m with
  | zero =>
    intro p I1 v4 hp hF hU
    have hS := hU.2.2.2.1
    have hp2 : p = dS D := by omega
    subst hp2
    refine b42_4 ?_
    rw [hU.1.1]
    exact ⟨⟨by omega, by omega⟩, ⟨by omega, by omega⟩, fun c => by omega, fun _ => h I1 hF hU⟩
  | succ m ih =>
    intro p I1 v4 hp hF hU
    have hD := hU.2.2.2
    have hC := hU.1
    have hS := hD.1
    have hB := hD.2.2.1
    have g := cntb_le (dB D) s p
    refine b42_4 ?_
    rw [hC.1]
    refine ⟨⟨by omega, by omega⟩, ⟨by omega, by omega⟩, fun _ => ?_, fun c => by omega⟩
    refine c27 (by omega) (fun d' _ => k27 hC hD ?_)
    refine b42_24 (c43 (by omega) (fun d' _ => k43 (n := dT D) rfl rfl rfl hs (by omega) hD.2.1 ?_))
    refine b42_27 (c44 (by omega) (fun d' _ => k44 rfl rfl (by omega) hC hD hs (by omega) ?_))
    refine b42_43 (c46 (by omega) (fun d' _ => k46 rfl rfl (by omega) hC hD hs (by omega) ?_))
    refine b42_52 (c33 (by omega) (fun d' _ => k33 rfl rfl rfl rfl (by omega) hU lash_le (by omega) (by omega) (dLampAt_le s p) (fun I2 hF2 hU2 => ?_)))
    have g1 : orN p (dShB D s) < 2 ^ 12 := orN_lt (fun i _ => dBars_lt hD _ _ _ _)
    have g2 := dBars_lt hD (lash s p (dT D)) p (cntb (dB D) s p) (dLampAt D s p)
    refine b42_55 ?_
    rw [zor_n (by omega) (by omega)]
    exact ih (p + 1) I2 _ (by omega) (hF.tr hF2) hU2
theorem k42 {x1 : Int} {s : Nat} (e1 : x1 = s) (hd : 3 ≤ d) (hU : RU t I D) (hs : s < 4194304) (h : ∀ I', FB I I' → RU t I' D → Q (.inl (some (vi (dShores D s)))) (z_cfg t, I', J)) : Go sc d mt_42 0 [vr 839, vi x1, vn, vn, vn] [] (z_cfg t, I, J) Q := by
  subst e1
  exact b42_0 (k42loop hd hs h (dS D) 0 I vn (by omega) (FB.rf I) hU)
theorem cntb_pos {n s b : Nat} (hb : b < n) : 1 ≤ cntb n s (lberth s b) := by
  induction n with
  | zero => omega
  | succ k ih =>
    show 1 ≤ cntb k s (lberth s b) + (if lberth s k = lberth s b then 1 else 0)
    by_cases h : b = k
    · subst h; rw [if_pos rfl]; omega
    · have := ih (by omega)
      omega
def dWaB (D : tD) (s b S p : Nat) : Nat := dBars D (ndiff (lash s p (dT D)) S) p (cntb (dB D) s p - (if p = lberth s b then 1 else 0)) 0
def dWaters (D : tD) (s b S : Nat) : Nat := dBars D S (dS D) 1 (dAlong D) ||| orN (dS D) (dWaB D s b S)
theorem dAlong_le : dAlong D ≤ 1 := by
  unfold dAlong
  split <;> omega
theorem k91loop {s b S A : Nat} {x2 : Int} (hd : 3 ≤ d) (hs : s < 4194304) (hb : b < dB D) (hS : S ≤ dAll D) (hA : A < 4096) (h : ∀ I', FB I I' → RU t I' D → Q (.inl (some (vi ((A ||| orN (dS D) (dWaB D s b S) : Nat) : Int)))) (z_cfg t, I', J)) : ∀ (m p : Nat) (I1 : Nat → Nat → Int) (v7 v8 : zV), p + m = dS D → FB I I1 → RU t I1 D → Go sc d mt_91 32 [vr 839, vi (s : Int), vi x2, vi (S : Int), vi ((A ||| orN p (dWaB D s b S) : Nat) : Int), vi (lberth s b : Int), vi (p : Int), v7, v8] [] (z_cfg t, I1, J) Q := by
  intro m
  induction m with
  | zero =>
    intro p I1 v7 v8 hp hF hU
    have hS := hU.2.2.2.1
    have hp2 : p = dS D := by omega
    subst hp2
    refine b91_32 ?_
    rw [hU.1.1]
    exact ⟨⟨by omega, by omega⟩, ⟨by omega, by omega⟩, fun c => by omega, fun _ => h I1 hF hU⟩
  | succ m ih =>
    intro p I1 v7 v8 hp hF hU
    have hD := hU.2.2.2
    have hC := hU.1
    have hS := hD.1
    have hB := hD.2.2.1
    have hAl := dAll_lt hD
    have g := cntb_le (dB D) s p
    have gl := lberth_lt s b
    have gd := ndiff_le (lash s p (dT D)) S
    have ga := lash_le (D := D) (s := s) (p := p)
    refine b91_32 ?_
    rw [hC.1]
    refine ⟨⟨by omega, by omega⟩, ⟨by omega, by omega⟩, fun _ => ?_, fun c => by omega⟩
    refine c27 (by omega) (fun d' _ => k27 hC hD ?_)
    refine b91_54 (c43 (by omega) (fun d' _ => k43 (n := dT D) rfl rfl rfl hs (by omega) hD.2.1 ?_))
    refine b91_57 ?_
    rw [zandn_n (by omega) (by omega)]
    refine c44 (by omega) (fun d' _ => k44 rfl rfl (by omega) hC hD hs (by omega) ?_)
    have key : ∀ (u : Nat), u = (if p = lberth s b then 1 else 0) → Go sc d mt_91 85 [vr 839, vi (s : Int), vi x2, vi (S : Int), vi ((A ||| orN p (dWaB D s b S) : Nat) : Int), vi (lberth s b : Int), vi (p : Int), vi ((ndiff (lash s p (dT D)) S : Nat) : Int), v8] [vi (u : Int), vi (cntb (dB D) s p : Int)] (z_cfg t, I1, J) Q := by
      intro u hu
      have hu2 : u ≤ cntb (dB D) s p := by
        rw [hu]
        split
        · rename_i hq
          rw [hq]
          exact cntb_pos hb
        · omega
      refine b91_85 ?_
      refine c33 (by omega) (fun d' _ => k33 (nb := cntb (dB D) s p - u) (l := 0) rfl rfl (by omega) rfl (by omega) hU (by omega) (by omega) (by omega) (by omega) (fun I2 hF2 hU2 => ?_))
      have g1 : orN p (dWaB D s b S) < 2 ^ 12 := orN_lt (fun i _ => dBars_lt hD _ _ _ _)
      have g2 := dBars_lt hD (ndiff (lash s p (dT D)) S) p (cntb (dB D) s p - u) 0
      have g3 : A ||| orN p (dWaB D s b S) < 2 ^ 12 := Nat.or_lt_two_pow hA g1
      refine b91_101 ?_
      rw [zor_n (by omega) (by omega), Nat.or_assoc, hu]
      exact ih (p + 1) I2 _ _ (by omega) (hF.tr hF2) hU2
    refine b91_73 ⟨⟨by omega, by omega⟩, ⟨by omega, by omega⟩, fun c => key 1 (by rw [if_pos (by omega)]), fun c => key 0 (by rw [if_neg (by omega)])⟩
theorem k91 {x1 x2 x3 : Int} {s b S : Nat} (e1 : x1 = s) (e2 : x2 = b) (e3 : x3 = S) (hd : 3 ≤ d) (hU : RU t I D) (hs : s < 4194304) (hb : b < dB D) (hS : S ≤ dAll D) (h : ∀ I', FB I I' → RU t I' D → Q (.inl (some (vi (dWaters D s b S)))) (z_cfg t, I', J)) : Go sc d mt_91 0 [vr 839, vi x1, vi x2, vi x3, vn, vn, vn, vn, vn] [] (z_cfg t, I, J) Q := by
  subst e1 e2 e3
  have hD := hU.2.2.2
  have hB := hD.2.2.1
  refine b91_0 ?_
  rw [hU.1.1]
  refine c32 (by omega) (fun d' _ => k32 hU.1 hD ?_)
  refine b91_17 (c33 (by omega) (fun d' _ => k33 (nb := 1) rfl rfl rfl rfl (by omega) hU hS (Nat.le_refl _) (by omega) dAlong_le (fun I2 hF2 hU2 => ?_)))
  refine b91_20 (c45 (by omega) (fun d' _ => k45 rfl rfl hs (by omega) ?_))
  refine b91_27 ?_
  have := k91loop (sc := sc) (d := d) (t := t) (J := J) (Q := Q) (x2 := (b : Int)) hd hs hb hS (dBars_lt hD S (dS D) 1 (dAlong D)) h (dS D) 0 I2 vn vn (by omega) hF2 hU2
  rw [show dBars D S (dS D) 1 (dAlong D) ||| orN 0 (dWaB D s b S) = dBars D S (dS D) 1 (dAlong D) from Nat.or_zero _] at this
  exact this
end
