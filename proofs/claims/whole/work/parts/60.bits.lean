/-! ===== memory and bits ===== -/
theorem zu_same (I : Nat → Nat → Int) (a k : Nat) (v : Int) : z_u I a k v a k = v := by
  unfold z_u z_row
  rw [if_pos rfl, if_pos rfl]
theorem zu_ne {I : Nat → Nat → Int} {a k i : Nat} {v : Int} (h : ¬ i = a) : z_u I a k v i = I i := by
  unfold z_u
  rw [if_neg h]
theorem zu_nk {I : Nat → Nat → Int} {a k j : Nat} {v : Int} (h : ¬ j = k) : z_u I a k v a j = I a j := by
  unfold z_u z_row
  rw [if_pos rfl, if_neg h]
theorem zu_at (I : Nat → Nat → Int) (a k : Nat) (v : Int) (j : Nat) : z_u I a k v a j = if j = k then v else I a j := by
  unfold z_u z_row
  rw [if_pos rfl]
theorem zzr_ne {I : Nat → Nat → Int} {a i : Nat} (h : ¬ i = a) : z_zr I a i = I i := by
  funext j
  unfold z_zr
  rw [if_neg h]
theorem zmd_or (b : Bool) : z_md b = 98 ∨ z_md b = 450 := by cases b <;> decide
theorem zbv (x : Nat) : (Int32.ofInt (x : Int)).toBitVec = BitVec.ofNat 32 x := by
  rw [Int32.toBitVec_ofInt]
  exact BitVec.ofInt_natCast _ _
theorem zval {v : Int32} {n : Nat} (h : v.toBitVec.toNat = n) (hn : n < 2147483648) : v.toInt = (n : Int) := by
  rw [← Int32.toInt_toBitVec, BitVec.toInt_eq_toNat_of_lt (by rw [h]; omega), h]
theorem zand_n {x y : Nat} (hx : x < 2147483648) (hy : y < 2147483648) : zand (x : Int) (y : Int) = ((x &&& y : Nat) : Int) := by
  refine zval ?_ (Nat.lt_of_le_of_lt Nat.and_le_left hx)
  rw [Int32.toBitVec_and, zbv, zbv, BitVec.toNat_and, BitVec.toNat_ofNat, BitVec.toNat_ofNat, Nat.mod_eq_of_lt (by omega), Nat.mod_eq_of_lt (by omega)]
theorem zor_n {x y : Nat} (hx : x < 2147483648) (hy : y < 2147483648) : zor (x : Int) (y : Int) = ((x ||| y : Nat) : Int) := by
  refine zval ?_ (Nat.or_lt_two_pow (n := 31) hx hy)
  rw [Int32.toBitVec_or, zbv, zbv, BitVec.toNat_or, BitVec.toNat_ofNat, BitVec.toNat_ofNat, Nat.mod_eq_of_lt (by omega), Nat.mod_eq_of_lt (by omega)]
theorem zxor_n {x y : Nat} (hx : x < 2147483648) (hy : y < 2147483648) : zxor (x : Int) (y : Int) = ((x ^^^ y : Nat) : Int) := by
  refine zval ?_ (Nat.xor_lt_two_pow (n := 31) hx hy)
  rw [Int32.toBitVec_xor, zbv, zbv, BitVec.toNat_xor, BitVec.toNat_ofNat, BitVec.toNat_ofNat, Nat.mod_eq_of_lt (by omega), Nat.mod_eq_of_lt (by omega)]
/-- x without y's bits -/
def ndiff (x y : Nat) : Nat := x ^^^ (x &&& y)
theorem ndiff_bit (x y i : Nat) : (ndiff x y).testBit i = (x.testBit i && !y.testBit i) := by
  unfold ndiff
  rw [Nat.testBit_xor, Nat.testBit_and]
  cases x.testBit i <;> cases y.testBit i <;> rfl
theorem ndiff_le (x y : Nat) : ndiff x y ≤ x := Nat.le_of_testBit (fun i h => by
  rw [ndiff_bit] at h
  exact (Bool.and_eq_true_iff.mp h).1)
theorem bv_nand (x y : BitVec 32) : (x &&& (y ^^^ BitVec.allOnes 32)) = x ^^^ (x &&& y) := by
  ext i hi
  simp only [BitVec.getElem_and, BitVec.getElem_xor, BitVec.getElem_allOnes]
  cases x[i] <;> cases y[i] <;> rfl
theorem zandn_n {x y : Nat} (hx : x < 2147483648) (hy : y < 2147483648) : zand (x : Int) (zxor (y : Int) (-1)) = ((ndiff x y : Nat) : Int) := by
  refine zval ?_ (Nat.lt_of_le_of_lt (ndiff_le x y) hx)
  rw [Int32.toBitVec_and, zxor, Int32.ofInt_toInt, Int32.toBitVec_xor, zbv, zbv, show (Int32.ofInt (-1)).toBitVec = BitVec.allOnes 32 from rfl, bv_nand, BitVec.toNat_xor, BitVec.toNat_and, BitVec.toNat_ofNat, BitVec.toNat_ofNat, Nat.mod_eq_of_lt (by omega), Nat.mod_eq_of_lt (by omega)]
  rfl
theorem zsh_k : ∀ k : Nat, k < 32 → (Int32.ofInt (k : Int) &&& 31).toBitVec.smod 32 = BitVec.ofNat 32 k := by decide
theorem zshl_n {x k : Nat} (hk : k < 32) (hx : x * 2 ^ k < 2147483648) : zshl (x : Int) (k : Int) = ((x * 2 ^ k : Nat) : Int) := by
  have h1 : x ≤ x * 2 ^ k := Nat.le_mul_of_pos_right _ (Nat.two_pow_pos k)
  refine zval ?_ hx
  rw [Int32.toBitVec_shiftLeft, zbv, zsh_k k hk, BitVec.shiftLeft_eq', BitVec.toNat_shiftLeft, BitVec.toNat_ofNat, BitVec.toNat_ofNat, Nat.mod_eq_of_lt (show x < 2 ^ 32 by omega), Nat.mod_eq_of_lt (show k < 2 ^ 32 by omega), Nat.shiftLeft_eq, Nat.mod_eq_of_lt (show x * 2 ^ k < 2 ^ 32 by omega)]
theorem zshr_i {x : Int} {k : Nat} (hx : inR x) (hk : k < 32) : zshr x (k : Int) = x / (2 ^ k : Nat) := by
  show (Int32.ofInt x >>> (Int32.ofInt (k : Int) &&& 31)).toInt = _
  rw [← Int32.toInt_toBitVec, Int32.toBitVec_shiftRight, zsh_k k hk, BitVec.sshiftRight'_ofNat_eq_sshiftRight, BitVec.toInt_sshiftRight, Nat.mod_eq_of_lt (by omega : k < 2 ^ 32), Int32.toInt_toBitVec, show (Int32.ofInt x).toInt = x from wr_id hx, Int.shiftRight_eq_div_pow]
theorem zshr_n {x k : Nat} (hx : x < 2147483648) (hk : k < 32) : zshr (x : Int) (k : Int) = ((x / 2 ^ k : Nat) : Int) := by
  rw [zshr_i ⟨by omega, by omega⟩ hk]
  exact (Int.natCast_ediv x (2 ^ k)).symm
theorem zand1 {x : Nat} (hx : x < 2147483648) : zand (x : Int) 1 = ((x % 2 : Nat) : Int) := by
  have := zand_n (y := 1) hx (by omega)
  rw [show ((1 : Nat) : Int) = 1 from rfl] at this
  rw [this, Nat.and_one_is_mod]
theorem zandm {x : Nat} (m k : Nat) (hm : m = 2 ^ k - 1) (hk : k < 31) (hx : x < 2147483648) : zand (x : Int) (m : Int) = ((x % 2 ^ k : Nat) : Int) := by
  have h2 : 2 ^ k < 2 ^ 31 := Nat.pow_lt_pow_right (by omega) hk
  rw [zand_n hx (by omega), hm, Nat.and_two_pow_sub_one_eq_mod]
/-- the bit at k -/
theorem zbit {x k : Nat} (hx : x < 2147483648) (hk : k < 32) : zand (zshr (x : Int) (k : Int)) 1 = ((x.testBit k).toNat : Int) := by
  rw [zshr_n hx hk, zand1 (Nat.lt_of_le_of_lt (Nat.div_le_self _ _) hx), Nat.toNat_testBit]
/-- a set told by its members -/
def msk (n : Nat) (f : Nat → Bool) : Nat := match n with
  | 0 => 0
  | k + 1 => msk k f + (f k).toNat * 2 ^ k
theorem msk_lt (n : Nat) (f : Nat → Bool) : msk n f < 2 ^ n := by
  induction n with
  | zero => exact Nat.zero_lt_one
  | succ k ih =>
    show msk k f + (f k).toNat * 2 ^ k < 2 ^ (k + 1)
    have h1 : (f k).toNat * 2 ^ k ≤ 1 * 2 ^ k := Nat.mul_le_mul_right _ (Bool.toNat_le (f k))
    rw [Nat.pow_succ]
    omega
theorem msk_bit (n : Nat) (f : Nat → Bool) (i : Nat) : (msk n f).testBit i = (decide (i < n) && f i) := by
  induction n with
  | zero => simp [msk]
  | succ k ih =>
    have h0 := msk_lt k f
    have e : msk (k + 1) f = 2 ^ k * (f k).toNat + msk k f := by
      show msk k f + (f k).toNat * 2 ^ k = _
      rw [Nat.mul_comm, Nat.add_comm]
    rw [e, Nat.testBit_two_pow_mul_add _ h0]
    by_cases h : i < k
    · rw [if_pos h, ih]
      simp [h, Nat.lt_succ_of_lt h]
    · rw [if_neg h]
      by_cases h2 : i = k
      · subst h2
        rw [Nat.sub_self, Nat.testBit_bool_toNat]
        simp
      · rw [Nat.testBit_bool_toNat]
        have h3 : ¬ i - k = 0 := by omega
        have h4 : ¬ i < k + 1 := by omega
        simp [h3, h4]
theorem msk_all (n : Nat) : msk n (fun _ => true) = 2 ^ n - 1 := by
  apply Nat.eq_of_testBit_eq
  intro i
  rw [msk_bit, Nat.testBit_two_pow_sub_one]
  simp
theorem msk_of {n S : Nat} (h : S < 2 ^ n) : msk n (fun i => S.testBit i) = S := by
  apply Nat.eq_of_testBit_eq
  intro i
  rw [msk_bit]
  by_cases hi : i < n
  · simp [hi]
  · have : S.testBit i = false := Nat.testBit_lt_two_pow (Nat.lt_of_lt_of_le h (Nat.pow_le_pow_right (by omega) (by omega)))
    simp [this]
/-- sums over a set's members -/
def sm (n : Nat) (w : Nat → Nat) (S : Nat) : Nat := match n with
  | 0 => 0
  | k + 1 => sm k w S + (if S.testBit k then w k else 0)
def mx (n : Nat) (w : Nat → Nat) (S : Nat) : Nat := match n with
  | 0 => 0
  | k + 1 => max (mx k w S) (if S.testBit k then w k else 0)
