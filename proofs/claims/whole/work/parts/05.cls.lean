/-- the words that every method's own list holds -/
def m_tbl : List Cond := lw_tbl.filter goodWord
theorem m_tbl_in : ∀ w ∈ m_tbl, w ∈ lw_tbl := fun w h => (List.mem_filter.mp h).1
theorem m_tbl_good : ∀ w ∈ m_tbl, goodWord w = true := fun w h => (List.mem_filter.mp h).2
/-! the small machine's heap instructions -/
theorem m_in0 : ∀ w ∈ wsX10, w ∈ m_tbl := by decide +kernel
theorem m_in1 : ∀ w ∈ wsX30, w ∈ m_tbl := by decide +kernel
theorem m_in2 : ∀ w ∈ wsX40, w ∈ m_tbl := by decide +kernel
theorem m_in3 : ∀ w ∈ wsX50, w ∈ m_tbl := by decide +kernel
theorem m_in4 : ∀ w ∈ wsX60, w ∈ m_tbl := by decide +kernel
theorem m_in5 : ∀ w ∈ wsX70, w ∈ m_tbl := by decide +kernel
theorem m_in6 : ∀ w ∈ wsX80, w ∈ m_tbl := by decide +kernel
theorem m_in7 : ∀ w ∈ wsX90, w ∈ m_tbl := by decide +kernel
theorem m_in8 : ∀ w ∈ wsX100, w ∈ m_tbl := by decide +kernel
theorem m_in9 : ∀ w ∈ wsX110, w ∈ m_tbl := by decide +kernel
theorem m_in10 : ∀ w ∈ wsX120, w ∈ m_tbl := by decide +kernel
/-- what is known of the ci-th kind of object -/
def m_CL (ci : Nat) (C : String) (T : u_T) (N : Nat) : Prop := vwCl[ci]? = some (C, T, N) ∧ N = m_NF ci ∧ (∀ w ∈ u_ws C T N, w ∈ m_tbl) ∧ (∀ k, k < N → parseFieldDescriptor (T k).2.2.1 = some (m_ty ci k)) ∧ ∀ a, a < N → ∀ b, b < N → a ≠ b → (T a).2.1 ≠ (T b).2.1
theorem m_cls : ∀ (ci : Nat) (q : vw_C), vwCl[ci]? = some q → m_CL ci q.1 q.2.1 q.2.2 := by
  intro ci q h
  match ci, h with
  | 0, h => cases h; exact ⟨rfl, rfl, m_in0, tyX1_ok, nmX1⟩
  | 1, h => cases h; exact ⟨rfl, rfl, m_in1, tyX3_ok, nmX3⟩
  | 2, h => cases h; exact ⟨rfl, rfl, m_in2, tyX4_ok, nmX4⟩
  | 3, h => cases h; exact ⟨rfl, rfl, m_in3, tyX5_ok, nmX5⟩
  | 4, h => cases h; exact ⟨rfl, rfl, m_in4, tyX6_ok, nmX6⟩
  | 5, h => cases h; exact ⟨rfl, rfl, m_in5, tyX7_ok, nmX7⟩
  | 6, h => cases h; exact ⟨rfl, rfl, m_in6, tyX8_ok, nmX8⟩
  | 7, h => cases h; exact ⟨rfl, rfl, m_in7, tyX9_ok, nmX9⟩
  | 8, h => cases h; exact ⟨rfl, rfl, m_in8, tyX10_ok, nmX10⟩
  | 9, h => cases h; exact ⟨rfl, rfl, m_in9, tyX11_ok, nmX11⟩
  | 10, h => cases h; exact ⟨rfl, rfl, m_in10, tyX12_ok, nmX12⟩
  | k + 11, h => simp [vwCl] at h
