/-! ===== the laws that the class lets bar ===== -/
section
variable {D : tD}
theorem acts_all (D : tD) : acts D (-1) = 2 ^ dL D - 1 := by
  unfold acts
  rw [if_pos rfl, ndiff_0]
theorem acts_lt (hD : dOk D) (w : Int) : acts D w < 4096 := by
  have h1 := ndiff_le (2 ^ dL D - 1) (if w = -1 then 0 else 2 ^ w.toNat)
  have h2 : 2 ^ dL D ≤ 2 ^ 12 := Nat.pow_le_pow_right (by omega) hD.2.2.2.1
  have h3 := Nat.two_pow_pos (dL D)
  unfold acts
  omega
theorem acts_one (hD : dOk D) {l : Nat} (hl : l < dL D) : zand ((2 ^ dL D - 1 : Nat) : Int) (zxor (zshl 1 (l : Int)) (-1)) = ((acts D (l : Int) : Nat) : Int) := by
  have hL := hD.2.2.2.1
  have h2 : 2 ^ dL D ≤ 2 ^ 12 := Nat.pow_le_pow_right (by omega) hL
  have h4 : 2 ^ l ≤ 2 ^ 12 := Nat.pow_le_pow_right (by omega) (by omega)
  have e : zshl 1 (l : Int) = ((1 * 2 ^ l : Nat) : Int) := zshl_n (x := 1) (by omega) (by omega)
  rw [e, Nat.one_mul, zandn_n (by omega) (by omega)]
  unfold acts
  rw [if_neg (by omega), Int.toNat_natCast]
end
