/-! rows of the law hold, h -/
theorem rl_14 : ((mr_283.drop 672).take 48).all (m_rok2 13 mt_283) = true := by decide +kernel
theorem rl_15 : ((mr_283.drop 720).take 48).all (m_rok2 13 mt_283) = true := by decide +kernel
theorem rl_16 : ((mr_283.drop 768).take 48).all (m_rok2 13 mt_283) = true := by decide +kernel
theorem rl_17 : ((mr_283.drop 816).take 48).all (m_rok2 13 mt_283) = true := by decide +kernel
theorem rl_len : mr_283.length ≤ 864 := by decide +kernel
theorem rl_all : ∀ k, k < 18 → ((mr_283.drop (48 * k)).take 48).all (m_rok2 13 mt_283) = true := by
  intro k hk
  match k, hk with
  | 0, _ => exact rl_0
  | 1, _ => exact rl_1
  | 2, _ => exact rl_2
  | 3, _ => exact rl_3
  | 4, _ => exact rl_4
  | 5, _ => exact rl_5
  | 6, _ => exact rl_6
  | 7, _ => exact rl_7
  | 8, _ => exact rl_8
  | 9, _ => exact rl_9
  | 10, _ => exact rl_10
  | 11, _ => exact rl_11
  | 12, _ => exact rl_12
  | 13, _ => exact rl_13
  | 14, _ => exact rl_14
  | 15, _ => exact rl_15
  | 16, _ => exact rl_16
  | 17, _ => exact rl_17
  | k + 18, h => exact absurd h (by omega)
theorem rl_mem : mr_283.all (m_rok2 13 mt_283) = true := by
  rw [List.all_eq_true]
  intro q hq
  obtain ⟨i, hi⟩ := List.mem_iff_getElem?.mp hq
  have hl : i < mr_283.length := (List.getElem?_eq_some_iff.mp hi).1
  have hn := rl_len
  have h1 := List.all_eq_true.mp (rl_all (i / 48) (by omega)) q
  refine h1 (List.mem_of_getElem? (i := i % 48) ?_)
  rw [List.getElem?_take, if_pos (by omega), List.getElem?_drop, show 48 * (i / 48) + i % 48 = i by omega]
  exact hi
theorem rk_283 : m_mck 13 mt_283 mr_283 = true := by
  unfold m_mck
  rw [Bool.and_eq_true]
  exact ⟨by decide +kernel, rl_mem⟩
