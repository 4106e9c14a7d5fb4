/-! ===== states: digits of two bits, and how the class's and the reference's ones go together ===== -/
def dg (r u : Nat) : Nat := r / 2 ^ (2 * u) % 4
def rset (r u p : Nat) : Nat := ndiff r (3 * 2 ^ (2 * u)) ||| p * 2 ^ (2 * u)
theorem dg_lt (r u : Nat) : dg r u < 4 := Nat.mod_lt _ (by omega)
theorem dg_bits (r u : Nat) : dg r u = (r.testBit (2 * u)).toNat + 2 * (r.testBit (2 * u + 1)).toNat := by
  rw [Nat.toNat_testBit, Nat.toNat_testBit, Nat.pow_succ, ← Nat.div_div_eq_div_mul]
  unfold dg
  omega
theorem bit_lt4 {p i : Nat} (hp : p < 4) (hi : 2 ≤ i) : p.testBit i = false := Nat.testBit_lt_two_pow (Nat.lt_of_lt_of_le hp (Nat.pow_le_pow_right (n := 2) (by omega) hi))
theorem rset_bit {r u p i : Nat} : (rset r u p).testBit i = ((r.testBit i && !(decide (2 * u ≤ i) && Nat.testBit 3 (i - 2 * u))) || (decide (2 * u ≤ i) && p.testBit (i - 2 * u))) := by
  unfold rset
  rw [Nat.testBit_or, ndiff_bit, Nat.testBit_mul_two_pow, Nat.testBit_mul_two_pow]
theorem rset_out {r u p i : Nat} (hp : p < 4) (h : i < 2 * u ∨ 2 * u + 2 ≤ i) : (rset r u p).testBit i = r.testBit i := by
  rw [rset_bit]
  rcases h with h | h
  · rw [decide_eq_false (by omega)]
    simp
  · rw [bit_lt4 hp (by omega), bit_lt4 (p := 3) (by omega) (by omega)]
    simp
theorem p4_bits {p : Nat} (hp : p < 4) : (p.testBit 0).toNat + 2 * (p.testBit 1).toNat = p := by
  have : p = 0 ∨ p = 1 ∨ p = 2 ∨ p = 3 := by omega
  rcases this with rfl | rfl | rfl | rfl <;> decide
theorem dg_rset {r u p v : Nat} (hp : p < 4) : dg (rset r u p) v = if v = u then p else dg r v := by
  by_cases h : v = u
  · subst h
    rw [if_pos rfl, dg_bits, rset_bit, rset_bit, show 2 * v - 2 * v = 0 by omega, show 2 * v + 1 - 2 * v = 1 by omega, decide_eq_true (Nat.le_refl _), decide_eq_true (by omega : 2 * v ≤ 2 * v + 1), show Nat.testBit 3 0 = true from rfl, show Nat.testBit 3 1 = true from rfl]
    simp only [Bool.true_and, Bool.not_true, Bool.and_false, Bool.false_or]
    exact p4_bits hp
  · rw [if_neg h, dg_bits, dg_bits, rset_out hp (by omega), rset_out hp (by omega)]
theorem lshore_rset {r u p i : Nat} (hp : p < 4) (hu : 8 ≤ u) (hi : i < 8) : lshore (rset r u p) i = lshore r i := by
  unfold lshore
  rw [rset_out hp (by omega), rset_out hp (by omega)]
theorem lmoor_eq (s b p : Nat) : lmoor s b p = rset s (8 + b) p := by
  unfold lmoor rset
  rw [show 2 * (8 + b) = 16 + 2 * b by omega]
theorem llit_eq (s p : Nat) : llit s p = rset s 10 p := rfl
theorem lberth_eq (s b : Nat) : lberth s b = dg s (8 + b) := by
  unfold lberth dg
  rw [show 2 * (8 + b) = 16 + 2 * b by omega]
theorem llamp_eq (s : Nat) : llamp s = dg s 10 := rfl
theorem lplaced_bit {s S p i : Nat} (hS : S < 256) (hp : p < 4) : (lplaced s S p).testBit i = if i < 8 then (if S.testBit i then p.testBit 0 else s.testBit i) else if i < 16 then (if S.testBit (i - 8) then p.testBit 1 else s.testBit i) else s.testBit i := by
  have hS8 : ∀ j, 8 ≤ j → S.testBit j = false := fun j hj => Nat.testBit_lt_two_pow (Nat.lt_of_lt_of_le hS (Nat.pow_le_pow_right (n := 2) (by omega) hj))
  have hm : (S * 256).testBit i = (decide (8 ≤ i) && S.testBit (i - 8)) := Nat.testBit_mul_two_pow S i 8
  have e1 : (if p % 2 = 1 then S else 0).testBit i = (S.testBit i && p.testBit 0) := by
    rw [Nat.testBit_zero]
    split
    · rename_i h; rw [decide_eq_true h, Bool.and_true]
    · rename_i h; rw [decide_eq_false h, Bool.and_false, Nat.zero_testBit]
  have e2 : (if p / 2 % 2 = 1 then S * 256 else 0).testBit i = ((decide (8 ≤ i) && S.testBit (i - 8)) && p.testBit 1) := by
    rw [show p.testBit 1 = decide (p / 2 % 2 = 1) from by rw [Nat.testBit_succ, Nat.testBit_zero]]
    split
    · rename_i h; rw [decide_eq_true h, Bool.and_true, hm]
    · rename_i h; rw [decide_eq_false h, Bool.and_false, Nat.zero_testBit]
  unfold lplaced
  rw [Nat.testBit_or, Nat.testBit_or, ndiff_bit, Nat.testBit_or, hm, e1, e2]
  by_cases h1 : i < 8
  · rw [if_pos h1, decide_eq_false (by omega : ¬ 8 ≤ i)]
    cases S.testBit i <;> cases s.testBit i <;> cases p.testBit 0 <;> rfl
  · rw [if_neg h1, decide_eq_true (by omega : 8 ≤ i), hS8 i (by omega)]
    by_cases h2 : i < 16
    · rw [if_pos h2]
      cases S.testBit (i - 8) <;> cases s.testBit i <;> cases p.testBit 1 <;> rfl
    · rw [if_neg h2, hS8 (i - 8) (by omega)]
      cases s.testBit i <;> cases p.testBit 0 <;> cases p.testBit 1 <;> rfl
theorem lshore_placed {s S p i : Nat} (hS : S < 256) (hp : p < 4) (hi : i < 8) : lshore (lplaced s S p) i = if S.testBit i then p else lshore s i := by
  unfold lshore
  rw [lplaced_bit hS hp, lplaced_bit hS hp, if_pos hi, if_neg (by omega : ¬ 8 + i < 8), if_pos (by omega : 8 + i < 16), show 8 + i - 8 = i by omega]
  cases S.testBit i
  · rfl
  · exact p4_bits hp
theorem dg_placed {s S p u : Nat} (hS : S < 256) (hp : p < 4) (hu : 8 ≤ u) : dg (lplaced s S p) u = dg s u := by
  rw [dg_bits, dg_bits, lplaced_bit hS hp, lplaced_bit hS hp, if_neg (by omega), if_neg (by omega), if_neg (by omega), if_neg (by omega)]
section
variable {D : tD}
/-- where all is behind a crossing -/
theorem af_shore {s b p S i : Nat} (hb : b < 2) (hp : p < 4) (hS : S < 256) (hi : i < 8) : lshore (dAfter D s b p S) i = if S.testBit i then p else lshore s i := by
  unfold dAfter
  split
  · rw [lmoor_eq, lshore_rset hp (by omega) hi, lshore_placed hS hp hi]
  · rw [llit_eq, lshore_rset hp (by omega) hi, lmoor_eq, lshore_rset hp (by omega) hi, lshore_placed hS hp hi]
theorem af_berth {s b p S c : Nat} (hb : b < 2) (hp : p < 4) (hS : S < 256) (hc : c < 2) : lberth (dAfter D s b p S) c = if c = b then p else lberth s c := by
  rw [lberth_eq, lberth_eq]
  unfold dAfter
  split
  · rw [lmoor_eq, dg_rset hp, dg_placed hS hp (by omega)]
    by_cases h : c = b
    · rw [if_pos (by omega), if_pos h]
    · rw [if_neg (by omega), if_neg h]
  · rw [llit_eq, dg_rset hp, if_neg (by omega : ¬ 8 + c = 10), lmoor_eq, dg_rset hp, dg_placed hS hp (by omega)]
    by_cases h : c = b
    · rw [if_pos (by omega), if_pos h]
    · rw [if_neg (by omega), if_neg h]
theorem af_lamp {s b p S : Nat} (hb : b < 2) (hp : p < 4) (hS : S < 256) : llamp (dAfter D s b p S) = if dLamp D = -1 then llamp s else p := by
  rw [llamp_eq, llamp_eq]
  unfold dAfter
  split
  · rw [lmoor_eq, dg_rset hp, if_neg (by omega), dg_placed hS hp (by omega)]
  · rw [llit_eq, dg_rset hp, if_pos rfl]
/-- the reference's number of a state -/
def SR (s r : Nat) : Prop := r < 4194304 ∧ (∀ i, i < 8 → dg r i = lshore s i) ∧ ∀ u, 8 ≤ u → u < 11 → dg r u = dg s u
theorem dg_inj {r r' u : Nat} (h : dg r u = dg r' u) : r.testBit (2 * u) = r'.testBit (2 * u) ∧ r.testBit (2 * u + 1) = r'.testBit (2 * u + 1) := by
  rw [dg_bits, dg_bits] at h
  cases h1 : r.testBit (2 * u) <;> cases h2 : r'.testBit (2 * u) <;> cases h3 : r.testBit (2 * u + 1) <;> cases h4 : r'.testBit (2 * u + 1) <;> rw [h1, h2, h3, h4] at h <;> first | exact ⟨rfl, rfl⟩ | (exfalso; revert h; decide)
theorem bit22 {r i : Nat} (h : r < 4194304) (hi : 22 ≤ i) : r.testBit i = false := Nat.testBit_lt_two_pow (Nat.lt_of_lt_of_le h (Nat.pow_le_pow_right (n := 2) (by omega) hi))
theorem SR_fun {s r r' : Nat} (h : SR s r) (h' : SR s r') : r = r' := by
  have e : ∀ u, u < 11 → dg r u = dg r' u := fun u hu => by
    by_cases h8 : u < 8
    · rw [h.2.1 u h8, h'.2.1 u h8]
    · rw [h.2.2 u (by omega) hu, h'.2.2 u (by omega) hu]
  apply Nat.eq_of_testBit_eq
  intro i
  by_cases hi : i < 22
  · obtain ⟨g1, g2⟩ := dg_inj (e (i / 2) (by omega))
    by_cases hp : i % 2 = 0
    · rw [show 2 * (i / 2) = i by omega] at g1
      exact g1
    · rw [show 2 * (i / 2) + 1 = i by omega] at g2
      exact g2
  · rw [bit22 h.1 (by omega), bit22 h'.1 (by omega)]
theorem SR_inj {s s' r : Nat} (hs : s < 4194304) (hs' : s' < 4194304) (h : SR s r) (h' : SR s' r) : s = s' := by
  have sh : ∀ i, i < 8 → s.testBit i = s'.testBit i ∧ s.testBit (8 + i) = s'.testBit (8 + i) := fun i hi => by
    have e : lshore s i = lshore s' i := by rw [← h.2.1 i hi, ← h'.2.1 i hi]
    unfold lshore at e
    cases h1 : s.testBit i <;> cases h2 : s'.testBit i <;> cases h3 : s.testBit (8 + i) <;> cases h4 : s'.testBit (8 + i) <;> rw [h1, h2, h3, h4] at e <;> first | exact ⟨rfl, rfl⟩ | (exfalso; revert e; decide)
  apply Nat.eq_of_testBit_eq
  intro i
  by_cases h1 : i < 8
  · exact (sh i h1).1
  · by_cases h2 : i < 16
    · have := (sh (i - 8) (by omega)).2
      rw [show 8 + (i - 8) = i by omega] at this
      exact this
    · by_cases h3 : i < 22
      · have e : dg s (i / 2) = dg s' (i / 2) := by rw [← h.2.2 (i / 2) (by omega) (by omega), ← h'.2.2 (i / 2) (by omega) (by omega)]
        obtain ⟨g1, g2⟩ := dg_inj e
        by_cases hp : i % 2 = 0
        · rw [show 2 * (i / 2) = i by omega] at g1
          exact g1
        · rw [show 2 * (i / 2) + 1 = i by omega] at g2
          exact g2
      · rw [bit22 hs (by omega), bit22 hs' (by omega)]
theorem rset_lt {r u p : Nat} (hr : r < 4194304) (hu : u < 11) (hp : p < 4) : rset r u p < 4194304 := by
  refine Nat.lt_pow_two_of_testBit (n := 22) _ (fun i hi => ?_)
  rw [rset_out hp (by omega)]
  exact bit22 hr hi
end
