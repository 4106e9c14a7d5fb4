/-! every method's words, all -/
theorem mf_52 : (m_sf 52).all m_sok = true := by decide +kernel
theorem mf_53 : (m_sf 53).all m_sok = true := by decide +kernel
theorem mf_54 : (m_sf 54).all m_sok = true := by decide +kernel
theorem mf_55 : (m_sf 55).all m_sok = true := by decide +kernel
theorem mf_56 : (m_sf 56).all m_sok = true := by decide +kernel
theorem ms_all : ∀ k, k < 9 → (m_sl k).all m_sok = true := by
  intro k hk
  match k, hk with
  | 0, _ => exact ms_0
  | 1, _ => exact ms_1
  | 2, _ => exact ms_2
  | 3, _ => exact ms_3
  | 4, _ => exact ms_4
  | 5, _ => exact ms_5
  | 6, _ => exact ms_6
  | 7, _ => exact ms_7
  | 8, _ => exact ms_8
  | k + 9, h => exact absurd h (by omega)
theorem mf_all : ∀ k, k < 21 → (m_sf (36 + k)).all m_sok = true := by
  intro k hk
  match k, hk with
  | 0, _ => exact mf_36
  | 1, _ => exact mf_37
  | 2, _ => exact mf_38
  | 3, _ => exact mf_39
  | 4, _ => exact mf_40
  | 5, _ => exact mf_41
  | 6, _ => exact mf_42
  | 7, _ => exact mf_43
  | 8, _ => exact mf_44
  | 9, _ => exact mf_45
  | 10, _ => exact mf_46
  | 11, _ => exact mf_47
  | 12, _ => exact mf_48
  | 13, _ => exact mf_49
  | 14, _ => exact mf_50
  | 15, _ => exact mf_51
  | 16, _ => exact mf_52
  | 17, _ => exact mf_53
  | 18, _ => exact mf_54
  | 19, _ => exact mf_55
  | 20, _ => exact mf_56
  | k + 21, h => exact absurd h (by omega)
theorem m_MT_ok : ∀ (i : Nat) (q : mM × (Nat × Nat × Nat × Nat × Nat × Nat)), (m_Gl.zip m_MT)[i]? = some q → m_sok q = true := by
  intro i q h
  have hl : i < (m_Gl.zip m_MT).length := (List.getElem?_eq_some_iff.mp h).1
  have hn : (m_Gl.zip m_MT).length = 285 := by decide +kernel
  by_cases c : i < 180
  · have h1 := List.all_eq_true.mp (ms_all (i / 20) (by omega)) q
    refine h1 ?_
    unfold m_sl
    refine List.mem_of_getElem? (i := i % 20) ?_
    rw [List.getElem?_take, if_pos (by omega), List.getElem?_drop, show 20 * (i / 20) + i % 20 = i by omega]
    exact h
  · have h1 := List.all_eq_true.mp (mf_all (i / 5 - 36) (by omega)) q
    refine h1 ?_
    unfold m_sf
    refine List.mem_of_getElem? (i := i % 5) ?_
    rw [List.getElem?_take, if_pos (by omega), List.getElem?_drop, show 5 * (36 + (i / 5 - 36)) + i % 5 = i by omega]
    exact h
