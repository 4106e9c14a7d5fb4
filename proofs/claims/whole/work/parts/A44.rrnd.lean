/-! ===== rounds, the reference: states ===== -/
def csB (n i : Nat) : Bool := if i < 8 then n.testBit i else if i = 16 then n.testBit 8 else if i = 18 then n.testBit 9 else false
def cs (n : Nat) : Nat := msk 22 (csB n)
theorem cs_bit {n i : Nat} (hi : i < 22) : (cs n).testBit i = csB n i := by
  unfold cs
  rw [msk_bit, decide_eq_true hi, Bool.true_and]
/-- s is the state that n stands for -/
def CM (D : tD) (n s : Nat) : Prop := n < 1024 ∧ n % 256 ≤ dAll D ∧ (∀ i, i < 8 → lshore s i = (n.testBit i).toNat) ∧ (∀ b, b < 2 → lberth s b = (n.testBit (8 + b)).toNat) ∧ s < 4194304
theorem CM_cs {D : tD} {n : Nat} (h1 : n < 1024) (h2 : n % 256 ≤ dAll D) : CM D n (cs n) := by
  refine ⟨h1, h2, fun i hi => ?_, fun b hb => ?_, msk_lt 22 _⟩
  · unfold lshore
    rw [cs_bit (by omega), cs_bit (by omega)]
    unfold csB
    rw [if_pos hi, if_neg (by omega), if_neg (by omega), if_neg (by omega)]
    rfl
  · rw [lberth_eq, dg_bits, cs_bit (by omega), cs_bit (by omega)]
    have : b = 0 ∨ b = 1 := by omega
    unfold csB
    rcases this with e | e
    · subst e
      rw [if_neg (by omega), if_pos (by omega), if_neg (by omega), if_neg (by omega), if_neg (by omega)]
      rfl
    · subst e
      rw [if_neg (by omega), if_neg (by omega), if_pos (by omega), if_neg (by omega), if_neg (by omega), if_neg (by omega)]
      rfl
theorem all_bit (D : tD) (i : Nat) : (dAll D).testBit i = decide (i < dT D) := by
  unfold dAll
  exact Nat.testBit_two_pow_sub_one _ _
theorem CM.hi {D : tD} {n s i : Nat} (h : CM D n s) (h1 : dT D ≤ i) (h2 : i < 8) : n.testBit i = false := by
  have e : (n % 2 ^ 8).testBit i = (decide (i < 8) && n.testBit i) := Nat.testBit_mod_two_pow _ _ _
  rw [decide_eq_true h2, Bool.true_and] at e
  rw [← e]
  have := h.2.1
  have hp := Nat.two_pow_pos (dT D)
  have hq : 2 ^ dT D ≤ 2 ^ i := Nat.pow_le_pow_right (by omega) h1
  unfold dAll at this
  exact Nat.testBit_lt_two_pow (by omega)
theorem CM.and {D : tD} {n s : Nat} (hD : dOk D) (h : CM D n s) : dAll D &&& n = n % 256 := by
  have hT := hD.2.1
  apply Nat.eq_of_testBit_eq
  intro i
  have e : (n % 2 ^ 8).testBit i = (decide (i < 8) && n.testBit i) := Nat.testBit_mod_two_pow _ _ _
  have e : (n % 256).testBit i = (decide (i < 8) && n.testBit i) := e
  rw [Nat.testBit_and, all_bit, e]
  by_cases c : i < dT D
  · rw [decide_eq_true c, decide_eq_true (by omega)]
  · rw [decide_eq_false c, Bool.false_and]
    by_cases c2 : i < 8
    · rw [h.hi (by omega) c2, Bool.and_false]
    · rw [decide_eq_false c2, Bool.false_and]
theorem CM.l1 {D : tD} {n s : Nat} (hD : dOk D) (h : CM D n s) : lash s 1 (dT D) = dAll D &&& n := by
  have hT := hD.2.1
  apply Nat.eq_of_testBit_eq
  intro i
  rw [lash_bit, Nat.testBit_and, all_bit]
  by_cases c : i < dT D
  · rw [decide_eq_true c, Bool.true_and, Bool.true_and, h.2.2.1 i (by omega)]
    cases n.testBit i <;> rfl
  · rw [decide_eq_false c, Bool.false_and, Bool.false_and]
theorem CM.l0 {D : tD} {n s : Nat} (hD : dOk D) (h : CM D n s) : lash s 0 (dT D) = ndiff (dAll D) n := by
  have hT := hD.2.1
  apply Nat.eq_of_testBit_eq
  intro i
  rw [lash_bit, ndiff_bit, all_bit]
  by_cases c : i < dT D
  · rw [decide_eq_true c, Bool.true_and, Bool.true_and, h.2.2.1 i (by omega)]
    cases n.testBit i <;> rfl
  · rw [decide_eq_false c, Bool.false_and, Bool.false_and]
theorem CM.lb {D : tD} {n s b : Nat} (hD : dOk D) (h : CM D n s) : lash s (n.testBit (8 + b)).toNat (dT D) = (if n.testBit (8 + b) = true then dAll D &&& n else ndiff (dAll D) n) := by
  cases n.testBit (8 + b)
  · exact h.l0 hD
  · exact h.l1 hD
theorem CM.st {D : tD} {n s : Nat} (hT : rTold D) (h : CM D n s) : stOk D s := by
  refine ⟨h.2.2.2.2, fun i h1 h2 => by rw [h.2.2.1 i h2, h.hi h1 h2]; rfl, fun b hb => ?_⟩
  have h2 := hT.2.1
  rw [h.2.2.2.1 b (by omega), hT.1]
  have := Bool.toNat_le (n.testBit (8 + b))
  omega
theorem CM.goal {D : tD} {n s : Nat} (hD : dOk D) (hT : rTold D) (h : CM D n s) : (dGoal D s = true ↔ rGl D n) := by
  rw [goal_lash hD (h.st hT), decide_eq_true_iff, hT.1, show 2 - 1 = 1 from rfl, h.l1 hD, h.and hD]
  exact Iff.rfl
theorem CM_start {D : tD} (hD : dOk D) (hT : rTold D) : CM D (rN0 D) (dStart D) := by
  obtain ⟨g1, g2, g3⟩ := start_dg hD
  have h2 := hT.2.1
  have hS := hT.1
  obtain ⟨_, _, o3⟩ := hD.2.2.2.2.2.2.1 0 (by omega)
  obtain ⟨_, _, p3⟩ := hD.2.2.2.2.2.2.1 1 (by omega)
  have e : rN0 D = (dAt D 0 + 2 * dAt D 1) * 2 ^ 8 := by unfold rN0; omega
  refine ⟨by unfold rN0; omega, by rw [e]; omega, fun i hi => ?_, fun b hb => ?_, (start_ok hD).1⟩
  · rw [g1 i hi, e, Nat.testBit_mul_two_pow, decide_eq_false (by omega)]
    rfl
  · rw [lberth_eq, g2 b hb, if_pos (by omega), e, Nat.testBit_mul_two_pow, decide_eq_true (by omega), Bool.true_and, show 8 + b - 8 = b by omega]
    have a0 : dAt D 0 = 0 ∨ dAt D 0 = 1 := by omega
    have a1 : dAt D 1 = 0 ∨ dAt D 1 = 1 := by omega
    have : b = 0 ∨ b = 1 := by omega
    rcases this with z | z <;> subst z <;> rcases a0 with a0 | a0 <;> rcases a1 with a1 | a1 <;> rw [a0, a1] <;> rfl
theorem cnt1_v : ∀ c : Nat, c < 4 → ∀ g : Nat, g < 4 → ((0 + (if g.testBit 0 = false ∧ (c.testBit 0).toNat = 1 then 1 else 0)) + (if g.testBit 1 = false ∧ (c.testBit 1).toNat = 1 then 1 else 0)) = bc2 (c &&& ndiff 3 g) := by decide +kernel
theorem cnt0_v : ∀ c : Nat, c < 4 → ∀ g : Nat, g < 4 → ((0 + (if g.testBit 0 = false ∧ (c.testBit 0).toNat = 0 then 1 else 0)) + (if g.testBit 1 = false ∧ (c.testBit 1).toNat = 0 then 1 else 0)) = bc2 (ndiff 3 g) - bc2 (c &&& ndiff 3 g) := by decide +kernel
theorem CM.bb {D : tD} {n s b : Nat} (h : CM D n s) (hb : b < 2) : lberth s b = ((n / 256).testBit b).toNat := by
  have e : (n / 2 ^ 8).testBit b = n.testBit (b + 8) := Nat.testBit_div_two_pow n b
  have e : (n / 256).testBit b = n.testBit (b + 8) := e
  rw [h.2.2.2.1 b hb, e, Nat.add_comm 8 b]
theorem CM.bar {D : tD} {n s gone g : Nat} {lg : Bool} (hD : dOk D) (hT : rTold D) (h : CM D n s) (hg : g < 4) : (orN (dS D) (rShB D s gone g lg) = 0 ↔ rBar D n (ndiff (dAll D) gone) (ndiff 3 g) = false) := by
  have hn := h.1
  have hc : n / 256 < 4 := by omega
  have lam : ∀ p, (if lg then 0 else dLampAt D s p) = 0 := fun p => by
    unfold dLampAt
    rw [if_pos hT.2.2.1]
    split <;> rfl
  have e0 : rShB D s gone g lg 0 = dBars D (ndiff (ndiff (dAll D) gone) (n &&& ndiff (dAll D) gone)) 0 (bc2 (ndiff 3 g) - bc2 (n / 256 &&& ndiff 3 g)) 0 := by
    unfold rShB
    rw [lam, hT.2.1, h.l0 hD, ← cnt0_v _ hc g hg, ← h.bb (by omega : 0 < 2), ← h.bb (by omega : 1 < 2)]
    have : ndiff (ndiff (dAll D) n) gone = ndiff (ndiff (dAll D) gone) (n &&& ndiff (dAll D) gone) := by
      apply Nat.eq_of_testBit_eq
      intro i
      simp only [ndiff_bit, Nat.testBit_and]
      cases (dAll D).testBit i <;> cases n.testBit i <;> cases gone.testBit i <;> rfl
    rw [this]
    rfl
  have e1 : rShB D s gone g lg 1 = dBars D (n &&& ndiff (dAll D) gone) 1 (bc2 (n / 256 &&& ndiff 3 g)) 0 := by
    unfold rShB
    rw [lam, hT.2.1, h.l1 hD, ← cnt1_v _ hc g hg, ← h.bb (by omega : 0 < 2), ← h.bb (by omega : 1 < 2)]
    have : ndiff (dAll D &&& n) gone = n &&& ndiff (dAll D) gone := by
      apply Nat.eq_of_testBit_eq
      intro i
      simp only [ndiff_bit, Nat.testBit_and]
      cases (dAll D).testBit i <;> cases n.testBit i <;> cases gone.testBit i <;> rfl
    rw [this]
    rfl
  have eo : orN (dS D) (rShB D s gone g lg) = (0 ||| rShB D s gone g lg 0) ||| rShB D s gone g lg 1 := by rw [hT.1]; rfl
  rw [eo, Nat.or_eq_zero_iff, Nat.or_eq_zero_iff, e0, e1]
  unfold rBar
  rw [Bool.not_eq_false', Bool.and_eq_true, decide_eq_true_iff, decide_eq_true_iff]
  constructor
  · intro ⟨⟨_, a⟩, b⟩; exact ⟨a, b⟩
  · intro ⟨a, b⟩; exact ⟨⟨rfl, a⟩, b⟩
theorem CM.shores {D : tD} {n s : Nat} (hD : dOk D) (hT : rTold D) (h : CM D n s) : (dShores D s = 0 ↔ rBar D n (dAll D) 3 = false) := by
  have e : dShores D s = orN (dS D) (rShB D s 0 0 false) := orN_cg (fun i _ => (rShB_all D s i).symm)
  have := h.bar (gone := 0) (g := 0) (lg := false) hD hT (by decide)
  rw [ndiff_0, ndiff_0] at this
  rw [e]
  exact this
/-- behind a crossing of boat b -/
theorem CM.af {D : tD} {n s b S : Nat} (hD : dOk D) (h : CM D n s) (hb : b < 2) (hS : S ≤ dAll D) (hsub : ndiff S (lash s (n.testBit (8 + b)).toNat (dT D)) = 0) : CM D ((n ^^^ S) ^^^ 2 ^ (8 + b)) (dAfter D s b (1 - (n.testBit (8 + b)).toNat) S) := by
  have hA := dAll_lt hD
  have hp : 1 - (n.testBit (8 + b)).toNat < 4 := by omega
  have hbt := Bool.toNat_le (n.testBit (8 + b))
  have hlt : S < 2 ^ dT D := by
    have := Nat.two_pow_pos (dT D)
    unfold dAll at hS
    omega
  have hT := hD.2.1
  have sub : ∀ i, S.testBit i = true → i < dT D ∧ lshore s i = (n.testBit (8 + b)).toNat := fun i hi => by
    have e : (ndiff S (lash s (n.testBit (8 + b)).toNat (dT D))).testBit i = false := by rw [hsub]; exact Nat.zero_testBit i
    rw [ndiff_bit, hi, Bool.true_and, lash_bit] at e
    have e : (decide (i < dT D) && Nat.beq (lshore s i) (n.testBit (8 + b)).toNat) = true := by
      cases hq : (decide (i < dT D) && Nat.beq (lshore s i) (n.testBit (8 + b)).toNat)
      · rw [hq] at e; cases e
      · rfl
    rw [Bool.and_eq_true, decide_eq_true_iff] at e
    exact ⟨e.1, Nat.eq_of_beq_eq_true e.2⟩
  have h8 : S < 256 := by omega
  have hS8 : ∀ j, 8 ≤ j → S.testBit j = false := fun j hj => Nat.testBit_lt_two_pow (Nat.lt_of_lt_of_le h8 (Nat.pow_le_pow_right (n := 2) (by omega) hj))
  have hpw : 2 ^ (8 + b) < 2 ^ 10 := Nat.pow_lt_pow_right (by omega) (by omega)
  refine ⟨Nat.xor_lt_two_pow (n := 10) (Nat.xor_lt_two_pow (n := 10) h.1 (by omega)) hpw, ?_, fun i hi => ?_, fun c hc => ?_, ?_⟩
  · have e : ((n ^^^ S) ^^^ 2 ^ (8 + b)) % 2 ^ 8 = n % 2 ^ 8 ^^^ S := by
      rw [Nat.xor_mod_two_pow, Nat.xor_mod_two_pow, Nat.mod_eq_of_lt (a := S) (b := 2 ^ 8) h8, Nat.pow_add, Nat.mul_mod_right, Nat.xor_zero]
    have e : ((n ^^^ S) ^^^ 2 ^ (8 + b)) % 256 = n % 256 ^^^ S := e
    have hn := h.2.1
    have hp2 := Nat.two_pow_pos (dT D)
    have : n % 256 ^^^ S < 2 ^ dT D := Nat.xor_lt_two_pow (by unfold dAll at hn; omega) hlt
    rw [e]
    unfold dAll
    omega
  · rw [af_shore hb hp h8 hi, Nat.testBit_xor, Nat.testBit_xor, Nat.testBit_two_pow, decide_eq_false (by omega), Bool.xor_false]
    cases hq : S.testBit i with
    | false => rw [if_neg (by decide), h.2.2.1 i hi, Bool.xor_false]
    | true =>
      have e := (sub i hq).2
      rw [h.2.2.1 i hi] at e
      rw [if_pos rfl, ← e]
      cases n.testBit i <;> rfl
  · rw [af_berth hb hp h8 hc, Nat.testBit_xor, Nat.testBit_xor, Nat.testBit_two_pow, hS8 (8 + c) (by omega), Bool.xor_false]
    by_cases z : c = b
    · subst z
      rw [if_pos rfl, decide_eq_true rfl]
      cases n.testBit (8 + c) <;> rfl
    · rw [if_neg z, decide_eq_false (by omega), Bool.xor_false]
      exact h.2.2.2.1 c hc
  · unfold dAfter
    split
    · exact lmoor_lt (lplaced_lt h.2.2.2.2 h8) hb hp
    · exact llit_lt (lmoor_lt (lplaced_lt h.2.2.2.2 h8) hb hp) hp
theorem nx_f {n f : Nat} (h : ¬ f = 0) : rNx n f 0 = (n ^^^ f) ^^^ 2 ^ (8 + 0) := by
  unfold rNx stay
  rw [if_neg h, if_pos rfl, Nat.or_zero]
  rfl
theorem nx_s {n s : Nat} (h : ¬ s = 0) : rNx n 0 s = (n ^^^ s) ^^^ 2 ^ (8 + 1) := by
  unfold rNx stay
  rw [if_neg h, if_pos rfl, Nat.zero_or]
  rfl
theorem nx_b {n f s : Nat} (hf : ¬ f = 0) (hs : ¬ s = 0) (hd : s &&& f = 0) : rNx n f s = ((((n ^^^ f) ^^^ 2 ^ (8 + 0)) ^^^ s) ^^^ 2 ^ (8 + 1)) := by
  unfold rNx stay
  rw [if_neg hf, if_neg hs]
  apply Nat.eq_of_testBit_eq
  intro i
  have e : (s &&& f).testBit i = false := by rw [hd]; exact Nat.zero_testBit i
  rw [Nat.testBit_and] at e
  have e3 : (ndiff 3 (0 ||| 0) * 256).testBit i = ((2 ^ (8 + 0)).testBit i ^^ (2 ^ (8 + 1)).testBit i) := by
    rw [← Nat.testBit_xor]
    rfl
  rw [Nat.testBit_xor, Nat.testBit_xor, Nat.testBit_xor, Nat.testBit_xor, Nat.testBit_xor, Nat.testBit_xor, Nat.testBit_or, e3]
  revert e
  cases n.testBit i <;> cases f.testBit i <;> cases s.testBit i <;> cases (2 ^ (8 + 0)).testBit i <;> cases (2 ^ (8 + 1)).testBit i <;> decide
theorem stay_f {f : Nat} (h : ¬ f = 0) : stay f 0 = ndiff 3 1 := by unfold stay; rw [if_neg h, if_pos rfl]; rfl
theorem stay_s {s : Nat} (h : ¬ s = 0) : stay 0 s = ndiff 3 2 := by unfold stay; rw [if_neg h, if_pos rfl]; rfl
theorem stay_b {f s : Nat} (h : ¬ f = 0) (h' : ¬ s = 0) : stay f s = ndiff 3 3 := by unfold stay; rw [if_neg h, if_neg h']; rfl
