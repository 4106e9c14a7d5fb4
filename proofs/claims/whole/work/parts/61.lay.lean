/-! ===== the class's layout of a state ===== -/
def lplaced (s S p : Nat) : Nat := (ndiff s (S ||| S * 256) ||| (if p % 2 = 1 then S else 0)) ||| (if p / 2 % 2 = 1 then S * 256 else 0)
def lmoor (s b p : Nat) : Nat := ndiff s (3 * 2 ^ (16 + 2 * b)) ||| p * 2 ^ (16 + 2 * b)
def llit (s p : Nat) : Nat := ndiff s (3 * 2 ^ 20) ||| p * 2 ^ 20
def lshore (s t : Nat) : Nat := (s.testBit t).toNat + 2 * (s.testBit (8 + t)).toNat
def lash (s p n : Nat) : Nat := msk n (fun t => Nat.beq (lshore s t) p)
def lberth (s b : Nat) : Nat := s / 2 ^ (16 + 2 * b) % 4
def llamp (s : Nat) : Nat := s / 2 ^ 20 % 4
theorem or_lt22 {x y : Nat} (hx : x < 4194304) (hy : y < 4194304) : x ||| y < 4194304 := Nat.or_lt_two_pow (n := 22) hx hy
theorem lplaced_lt {s S p : Nat} (hs : s < 4194304) (hS : S < 256) : lplaced s S p < 4194304 := by
  unfold lplaced
  have h1 := ndiff_le s (S ||| S * 256)
  refine or_lt22 (or_lt22 (by omega) ?_) ?_ <;> split <;> omega
theorem lmoor_lt {s b p : Nat} (hs : s < 4194304) (hb : b < 2) (hp : p < 4) : lmoor s b p < 4194304 := by
  unfold lmoor
  have h1 := ndiff_le s (3 * 2 ^ (16 + 2 * b))
  refine or_lt22 (by omega) ?_
  have : b = 0 ∨ b = 1 := by omega
  rcases this with rfl | rfl <;> simp <;> omega
theorem llit_lt {s p : Nat} (hs : s < 4194304) (hp : p < 4) : llit s p < 4194304 := by
  unfold llit
  have h1 := ndiff_le s (3 * 2 ^ 20)
  exact or_lt22 (by omega) (by omega)
theorem pw16 {b p : Nat} (hb : b < 2) (hp : p < 4) : p * 2 ^ (16 + 2 * b) < 4194304 := by
  have : b = 0 ∨ b = 1 := by omega
  rcases this with rfl | rfl <;> simp <;> omega
theorem lash_lt (s p n : Nat) : lash s p n < 2 ^ n := msk_lt _ _
theorem lberth_lt (s b : Nat) : lberth s b < 4 := Nat.mod_lt _ (by omega)
theorem llamp_lt (s : Nat) : llamp s < 4 := Nat.mod_lt _ (by omega)
theorem lshore_lt (s t : Nat) : lshore s t < 4 := by
  unfold lshore
  have h1 := Bool.toNat_le (s.testBit t)
  have h2 := Bool.toNat_le (s.testBit (8 + t))
  omega
theorem c16_2b (b : Nat) : (16 : Int) + 2 * (b : Int) = ((16 + 2 * b : Nat) : Int) := by omega
section
variable {sc : mS} {d : Nat} {t : zT} {I J : Nat → Nat → Int} {Q : zR → zW → Prop}
theorem k17 {x0 x1 : Int} {s p : Nat} (e0 : x0 = s) (e1 : x1 = p) (hs : s < 4194304) (hp : p < 4) (h : Q (.inl (some (vi (llit s p)))) (z_cfg t, I, J)) : Go sc d mt_17 0 [vi x0, vi x1] [] (z_cfg t, I, J) Q := by
  subst e0 e1
  refine b17_0 ?_
  have e1 : zand (s : Int) (z_i32 4291821567) = ((ndiff s 3145728 : Nat) : Int) := by
    rw [← zandn_n (by omega) (by omega)]
    rfl
  have e2 : zshl (p : Int) 20 = ((p * 2 ^ 20 : Nat) : Int) := zshl_n (k := 20) (by omega) (by omega)
  rw [e1, e2, zor_n (by have := ndiff_le s 3145728; omega) (by omega)]
  exact h
theorem k18 {x0 x1 x2 : Int} {s b p : Nat} (e0 : x0 = s) (e1 : x1 = b) (e2 : x2 = p) (hs : s < 4194304) (hb : b < 2) (hp : p < 4) (h : Q (.inl (some (vi (lmoor s b p)))) (z_cfg t, I, J)) : Go sc d mt_18 0 [vi x0, vi x1, vi x2, vn] [] (z_cfg t, I, J) Q := by
  subst e0 e1 e2
  refine b18_0 ?_
  have hb2 : b = 0 ∨ b = 1 := by omega
  have g1 : 3 * 2 ^ (16 + 2 * b) < 4194304 := by rcases hb2 with rfl | rfl <;> decide
  have g2 : p * 2 ^ (16 + 2 * b) < 4194304 := pw16 hb hp
  have e3 : zshl 3 ((16 + 2 * b : Nat) : Int) = ((3 * 2 ^ (16 + 2 * b) : Nat) : Int) := zshl_n (x := 3) (by omega) (by omega)
  rw [c16_2b, e3, zshl_n (by omega) (by omega), zandn_n (by omega) (by omega), zor_n (by have := ndiff_le s (3 * 2 ^ (16 + 2 * b)); omega) (by omega)]
  exact h
theorem k45 {x0 x1 : Int} {s b : Nat} (e0 : x0 = s) (e1 : x1 = b) (hs : s < 4194304) (hb : b < 2) (h : Q (.inl (some (vi (lberth s b)))) (z_cfg t, I, J)) : Go sc d mt_45 0 [vi x0, vi x1] [] (z_cfg t, I, J) Q := by
  subst e0 e1
  refine b45_0 ?_
  have := Nat.div_le_self s (2 ^ (16 + 2 * b))
  rw [c16_2b, zshr_n (by omega) (by omega), show (3 : Int) = ((3 : Nat) : Int) from rfl, zandm 3 2 rfl (by omega) (by omega)]
  exact h
theorem k47 {x0 : Int} {s : Nat} (e0 : x0 = s) (hs : s < 4194304) (h : Q (.inl (some (vi (llamp s)))) (z_cfg t, I, J)) : Go sc d mt_47 0 [vi x0] [] (z_cfg t, I, J) Q := by
  subst e0
  refine b47_0 ?_
  have := Nat.div_le_self s (2 ^ 20)
  rw [show (20 : Int) = ((20 : Nat) : Int) from rfl, zshr_n (by omega) (by omega), show (3 : Int) = ((3 : Nat) : Int) from rfl, zandm 3 2 rfl (by omega) (by omega)]
  exact h
theorem k164 {x0 x1 : Int} {s i : Nat} (e0 : x0 = s) (e1 : x1 = i) (hs : s < 4194304) (hi : i < 8) (h : Q (.inl (some (vi (lshore s i)))) (z_cfg t, I, J)) : Go sc d mt_164 0 [vi x0, vi x1] [] (z_cfg t, I, J) Q := by
  subst e0 e1
  refine b164_0 ?_
  rw [zbit (by omega) (by omega), show (8 : Int) + (i : Int) = ((8 + i : Nat) : Int) by omega, zbit (by omega) (by omega)]
  have e : zor ((s.testBit i).toNat : Int) (zshl ((s.testBit (8 + i)).toNat : Int) 1) = ((lshore s i : Nat) : Int) := by
    unfold lshore
    cases s.testBit i <;> cases s.testBit (8 + i) <;> decide
  rw [e]
  exact h
theorem zand_p1 {p : Nat} (hp : p < 4) : zand (p : Int) 1 = 0 ↔ ¬ p % 2 = 1 := by
  rw [zand1 (by omega)]
  omega
theorem zand_p2 {p : Nat} (hp : p < 4) : zand (p : Int) 2 = 0 ↔ ¬ p / 2 % 2 = 1 := by
  have : p = 0 ∨ p = 1 ∨ p = 2 ∨ p = 3 := by omega
  rcases this with rfl | rfl | rfl | rfl <;> decide
theorem k41 {x0 x1 x2 : Int} {s S p : Nat} (e0 : x0 = s) (e1 : x1 = S) (e2 : x2 = p) (hs : s < 4194304) (hS : S < 256) (hp : p < 4) (h : Q (.inl (some (vi (lplaced s S p)))) (z_cfg t, I, J)) : Go sc d mt_41 0 [vi x0, vi x1, vi x2, vn, vn] [] (z_cfg t, I, J) Q := by
  subst e0 e1 e2
  have e8 : zshl (S : Int) 8 = ((S * 256 : Nat) : Int) := zshl_n (k := 8) (by omega) (by omega)
  have hor : S ||| S * 256 < 2147483648 := Nat.or_lt_two_pow (n := 31) (by omega) (by omega)
  have key : ∀ (u v : Nat), u < 256 → v < 65536 → u = (if p % 2 = 1 then S else 0) → v = (if p / 2 % 2 = 1 then S * 256 else 0) → Go sc d mt_41 26 [vi (s : Int), vi (S : Int), vi (p : Int), vi (u : Int), vn] [vi (v : Int)] (z_cfg t, I, J) Q := by
    intro u v hu hv eu ev
    refine b41_26 ?_
    have h1 := ndiff_le s (S ||| S * 256)
    rw [e8, zor_n (by omega) (by omega), zandn_n (by omega) hor, zor_n (by omega) (by omega), zor_n (Nat.or_lt_two_pow (n := 31) (by omega) (by omega)) (by omega), eu, ev]
    exact h
  have key2 : ∀ (u : Nat), u < 256 → u = (if p % 2 = 1 then S else 0) → Go sc d mt_41 11 [vi (s : Int), vi (S : Int), vi (p : Int), vn, vn] [vi (u : Int)] (z_cfg t, I, J) Q := by
    intro u hu eu
    refine b41_11 ⟨fun c => ?_, fun c => ?_⟩
    · exact key u 0 hu (by omega) eu (by rw [if_neg ((zand_p2 hp).mp c)])
    · rw [e8]
      exact key u (S * 256) hu (by omega) eu (by rw [if_pos (Decidable.not_not.mp (fun z => c ((zand_p2 hp).mpr z)))])
  refine b41_0 ⟨fun c => ?_, fun c => ?_⟩
  · exact key2 0 (by omega) (by rw [if_neg ((zand_p1 hp).mp c)])
  · exact key2 S hS (by rw [if_pos (Decidable.not_not.mp (fun z => c ((zand_p1 hp).mpr z)))])
/-- low and high bits of a group -/
theorem lash_eq {s p n : Nat} (hp : p < 4) (hn : n ≤ 8) : lash s p n = (if p % 2 = 1 then s &&& (2 ^ n - 1) else ndiff (2 ^ n - 1) s) &&& (if p / 2 % 2 = 1 then s / 256 &&& (2 ^ n - 1) else ndiff (2 ^ n - 1) (s / 256)) := by
  apply Nat.eq_of_testBit_eq
  intro i
  have e3 : (s / 256).testBit i = s.testBit (8 + i) := by
    rw [show s / 256 = s / 2 ^ 8 from rfl, Nat.testBit_div_two_pow, Nat.add_comm]
  unfold lash
  rw [msk_bit, Nat.testBit_and]
  have e1 : (if p % 2 = 1 then s &&& (2 ^ n - 1) else ndiff (2 ^ n - 1) s).testBit i = (if p % 2 = 1 then (s.testBit i && decide (i < n)) else (decide (i < n) && !s.testBit i)) := by
    split
    · rw [Nat.testBit_and, Nat.testBit_two_pow_sub_one]
    · rw [ndiff_bit, Nat.testBit_two_pow_sub_one]
  have e2 : (if p / 2 % 2 = 1 then s / 256 &&& (2 ^ n - 1) else ndiff (2 ^ n - 1) (s / 256)).testBit i = (if p / 2 % 2 = 1 then (s.testBit (8 + i) && decide (i < n)) else (decide (i < n) && !s.testBit (8 + i))) := by
    split
    · rw [Nat.testBit_and, Nat.testBit_two_pow_sub_one, e3]
    · rw [ndiff_bit, Nat.testBit_two_pow_sub_one, e3]
  rw [e1, e2]
  unfold lshore
  have : p = 0 ∨ p = 1 ∨ p = 2 ∨ p = 3 := by omega
  rcases this with rfl | rfl | rfl | rfl <;> cases s.testBit i <;> cases s.testBit (8 + i) <;> cases decide (i < n) <;> rfl
theorem zand_comm (x y : Int) : zand x y = zand y x := by
  unfold zand
  rw [Int32.and_comm]
theorem zand_dist (u v m : Int) : zand (zand u v) m = zand (zand u m) (zand v m) := by
  unfold zand
  rw [Int32.ofInt_toInt, Int32.ofInt_toInt, Int32.ofInt_toInt]
  congr 1
  apply Int32.toBitVec_inj.mp
  simp only [Int32.toBitVec_and]
  ext i hi
  simp only [BitVec.getElem_and]
  cases (Int32.ofInt u).toBitVec[i] <;> cases (Int32.ofInt v).toBitVec[i] <;> cases (Int32.ofInt m).toBitVec[i] <;> rfl
theorem k43 {x0 x1 x2 : Int} {s p n : Nat} (e0 : x0 = s) (e1 : x1 = p) (e2 : x2 = ((2 ^ n - 1 : Nat) : Int)) (hs : s < 4194304) (hp : p < 4) (hn : n ≤ 8) (h : Q (.inl (some (vi (lash s p n)))) (z_cfg t, I, J)) : Go sc d mt_43 0 [vi x0, vi x1, vi x2, vn, vn] [] (z_cfg t, I, J) Q := by
  subst e0 e1 e2
  have hm : 2 ^ n - 1 < 256 := by
    have : 2 ^ n ≤ 2 ^ 8 := Nat.pow_le_pow_right (by omega) hn
    omega
  have hs2 : s / 256 < 4194304 := by omega
  have e8 : zshr (s : Int) 8 = ((s / 256 : Nat) : Int) := zshr_n (k := 8) (by omega) (by omega)
  have key : ∀ (u v : Int), zand u ((2 ^ n - 1 : Nat) : Int) = (((if p % 2 = 1 then s &&& (2 ^ n - 1) else ndiff (2 ^ n - 1) s) : Nat) : Int) → zand v ((2 ^ n - 1 : Nat) : Int) = (((if p / 2 % 2 = 1 then s / 256 &&& (2 ^ n - 1) else ndiff (2 ^ n - 1) (s / 256)) : Nat) : Int) → Go sc d mt_43 33 [vi (s : Int), vi (p : Int), vi ((2 ^ n - 1 : Nat) : Int), vi u, vn] [vi v] (z_cfg t, I, J) Q := by
    intro u v hu hv
    refine b43_33 ?_
    have g1 : (if p % 2 = 1 then s &&& (2 ^ n - 1) else ndiff (2 ^ n - 1) s) < 256 := by
      split
      · exact Nat.lt_of_le_of_lt Nat.and_le_right hm
      · exact Nat.lt_of_le_of_lt (ndiff_le _ _) hm
    have g2 : (if p / 2 % 2 = 1 then s / 256 &&& (2 ^ n - 1) else ndiff (2 ^ n - 1) (s / 256)) < 256 := by
      split
      · exact Nat.lt_of_le_of_lt Nat.and_le_right hm
      · exact Nat.lt_of_le_of_lt (ndiff_le _ _) hm
    rw [zand_dist, hu, hv, zand_n (by omega) (by omega), ← lash_eq hp hn]
    exact h
  have key2 : ∀ (u : Int), zand u ((2 ^ n - 1 : Nat) : Int) = (((if p % 2 = 1 then s &&& (2 ^ n - 1) else ndiff (2 ^ n - 1) s) : Nat) : Int) → Go sc d mt_43 13 [vi (s : Int), vi (p : Int), vi ((2 ^ n - 1 : Nat) : Int), vn, vn] [vi u] (z_cfg t, I, J) Q := by
    intro u hu
    refine b43_13 ⟨fun c => ?_, fun c => ?_⟩
    · refine key u _ hu ?_
      rw [e8, if_neg ((zand_p2 hp).mp c), zand_comm, zandn_n (by omega) (by omega)]
    · refine key u _ hu ?_
      rw [e8, if_pos (Decidable.not_not.mp (fun z => c ((zand_p2 hp).mpr z))), zand_n (by omega) (by omega)]
  refine b43_0 ⟨fun c => ?_, fun c => ?_⟩
  · refine key2 _ ?_
    rw [if_neg ((zand_p1 hp).mp c), zand_comm, zandn_n (by omega) (by omega)]
  · refine key2 _ ?_
    rw [if_pos (Decidable.not_not.mp (fun z => c ((zand_p1 hp).mpr z))), zand_n (by omega) (by omega)]
end
