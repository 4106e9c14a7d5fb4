/-! ===== the class's goal depth is the reference's distance of the start ===== -/
theorem gg_sp {D : tD} {X Dp : Nat → Nat} : ∀ n, (gg D X Dp n = -1 ∧ ∀ i, i < n → dGoal D (X i) = false) ∨ ∃ i, i < n ∧ dGoal D (X i) = true ∧ gg D X Dp n = (Dp i : Int) ∧ ∀ j, j < i → dGoal D (X j) = false := by
  intro n
  induction n with
  | zero => exact Or.inl ⟨rfl, fun i hi => by omega⟩
  | succ n ih =>
    have e : gg D X Dp (n + 1) = if gg D X Dp n = -1 then (if dGoal D (X n) = true then (Dp n : Int) else -1) else gg D X Dp n := rfl
    rcases ih with ⟨h1, h2⟩ | ⟨i, i1, i2, i3, i4⟩
    · rw [if_pos h1] at e
      by_cases q : dGoal D (X n) = true
      · rw [if_pos q] at e
        exact Or.inr ⟨n, by omega, q, e, h2⟩
      · rw [if_neg q] at e
        refine Or.inl ⟨e, fun i hi => ?_⟩
        by_cases c : i = n
        · rw [c]
          cases hq : dGoal D (X n)
          · rfl
          · exact absurd hq q
        · exact h2 i (by omega)
    · rw [if_neg (by rw [i3]; omega)] at e
      exact Or.inr ⟨i, by omega, i2, by rw [e]; exact i3, i4⟩
theorem bfs_min {D : tD} {g : gS} {ds : Nat → Int} (hlow : ∀ k, k < gN g → -1 ≤ ds k) (h0 : ∀ k, ds k = 0 ↔ dGoal D (gX g k) = true) (hdn : ∀ k u, ds k = ((u + 1 : Nat) : Int) → ∃ e, eIn g k e ∧ ds (tg g e) = (u : Int)) (hup : ∀ k e, k < gN g → eIn g k e → 0 ≤ ds (tg g e) → 0 ≤ ds k ∧ ds k ≤ ds (tg g e) + 1) (hm : mono g) (h2 : ∀ i, i < gN g → ∀ e, eIn g i e → tg g e < gN g ∧ gDp g (tg g e) ≤ gDp g i + 1) (h3 : ∀ j, 0 < j → j < gN g → ∃ i, i < gN g ∧ ∃ e, eIn g i e ∧ tg g e = j ∧ gDp g j = gDp g i + 1) (hz : gDp g 0 = 0) (hp : 0 < gN g) : gg D (gX g) (gDp g) (gN g) = ds 0 := by
  have A : ∀ (n j : Nat), gDp g j = n → j < gN g → 0 ≤ ds j → 0 ≤ ds 0 ∧ ds 0 ≤ ds j + (n : Int) := by
    intro n
    induction n with
    | zero =>
      intro j hj hjn hd
      by_cases c : j = 0
      · rw [c] at hd ⊢
        exact ⟨hd, by omega⟩
      · obtain ⟨i, i1, e, e1, e2, e3⟩ := h3 j (by omega) hjn
        omega
    | succ n ih =>
      intro j hj hjn hd
      have c : 0 < j := by
        by_cases c : j = 0
        · rw [c] at hj; omega
        · omega
      obtain ⟨i, i1, e, e1, e2, e3⟩ := h3 j c hjn
      have u := hup i e i1 e1 (by rw [e2]; exact hd)
      rw [e2] at u
      have := ih i (by omega) i1 u.1
      exact ⟨this.1, by omega⟩
  have B : ∀ (v k : Nat), k < gN g → ds k = (v : Int) → ∃ j, j < gN g ∧ dGoal D (gX g j) = true ∧ gDp g j ≤ gDp g k + v := by
    intro v
    induction v with
    | zero => intro k hk hd; exact ⟨k, hk, (h0 k).mp hd, by omega⟩
    | succ v ih =>
      intro k hk hd
      obtain ⟨e, e1, e2⟩ := hdn k v hd
      obtain ⟨t1, t2⟩ := h2 k hk e e1
      obtain ⟨j, j1, j2, j3⟩ := ih (tg g e) t1 e2
      exact ⟨j, j1, j2, by omega⟩
  have hl := hlow 0 hp
  rcases gg_sp (D := D) (X := gX g) (Dp := gDp g) (gN g) with ⟨q1, q2⟩ | ⟨i, i1, i2, i3, i4⟩
  · rw [q1]
    by_cases c : ds 0 = -1
    · rw [c]
    · obtain ⟨j, j1, j2, -⟩ := B (ds 0).toNat 0 hp (by omega)
      rw [q2 j j1] at j2
      cases j2
  · rw [i3]
    have d0 := (h0 i).mpr i2
    have a := A (gDp g i) i rfl i1 (by omega)
    obtain ⟨j, j1, j2, j3⟩ := B (ds 0).toNat 0 hp (by omega)
    have hij : i ≤ j := by
      by_cases c : j < i
      · rw [i4 j c] at j2
        cases j2
      · omega
    have := hm i j hij j1
    omega
theorem gg_dst {D : tD} {act ho lo : Nat} (hs : gSp (gAll D act ho lo) = false) (hO : gOk D act (gAll D act ho lo)) : gg D (gX (gAll D act ho lo)) (gDp (gAll D act ho lo)) (gN (gAll D act ho lo)) = dst D (gAll D act ho lo) 0 := by
  have hF := gAll_F hs hO
  have hT := gOk_tg hO hF
  have hN := hO.1.1
  obtain ⟨b1, b2, b3⟩ := gAll_B hs hO
  have hz : gDp (gAll D act ho lo) 0 = 0 := Nat.le_zero.mp (hO.2.2.1 0 hO.1.2).2
  exact bfs_min (ds := dst D (gAll D act ho lo)) (fun k hk => (dst_in hT hN hk).1) (fun k => dst_0) (fun k u h => by
    obtain ⟨e, e1, e2, e3⟩ := dst_dn h
    exact ⟨e, ⟨e1, e2⟩, e3⟩) (fun k e hk he h => dst_up hT hN hk he.1 he.2 h) b1 b2 b3 hz hO.1.2
