/-! ===== what the distances mean ===== -/
theorem lv_s {D : tD} {g : gS} {n k : Nat} : lv D g (n + 1) k = if lv D g n k = -1 ∧ anyE g k (fun j => decide (lv D g n j = n)) = true then ((n + 1 : Nat) : Int) else lv D g n k := rfl
theorem lv_keep {D : tD} {g : gS} {n k : Nat} (h : ¬ lv D g n k = -1) : ∀ m, n ≤ m → lv D g m k = lv D g n k := by
  intro m
  induction m with
  | zero =>
    intro hm
    have : n = 0 := by omega
    rw [this]
  | succ m ih =>
    intro hm
    by_cases q : n = m + 1
    · rw [q]
    · have e := ih (by omega)
      rw [lv_s, if_neg (fun z => h (by rw [← e]; exact z.1)), e]
theorem lv_own {D : tD} {g : gS} {k v : Nat} : ∀ n, lv D g n k = (v : Int) → v ≤ n ∧ lv D g v k = (v : Int) := by
  intro n
  induction n with
  | zero =>
    intro h
    have := (lv_in (D := D) (g := g) 0 k).2
    have e : v = 0 := by omega
    rw [e] at h ⊢
    exact ⟨Nat.le_refl _, h⟩
  | succ n ih =>
    intro h
    by_cases q : lv D g n k = -1 ∧ anyE g k (fun j => decide (lv D g n j = n)) = true
    · have e := h
      rw [lv_s, if_pos q] at e
      have e2 : v = n + 1 := by omega
      rw [e2] at h ⊢
      exact ⟨Nat.le_refl _, h⟩
    · rw [lv_s, if_neg q] at h
      have := ih h
      exact ⟨by omega, this.2⟩
/-- no more is found -/
def stab (D : tD) (g : gS) (n : Nat) : Prop := ∀ k, k < gN g → lv D g (n + 1) k = lv D g n k
theorem lv_stab {D : tD} {g : gS} : ∀ (c n : Nat), cno D g n (gN g) ≤ c → n + cno D g n (gN g) ≤ gN g → ∃ m, m ≤ gN g ∧ stab D g m := by
  intro c
  induction c with
  | zero =>
    intro n hc hn
    refine ⟨n, by omega, fun k hk => ?_⟩
    by_cases q : lv D g (n + 1) k = lv D g n k
    · exact q
    · have := cno_lt (gN g) hk q
      omega
  | succ c ih =>
    intro n hc hn
    by_cases q : stab D g n
    · exact ⟨n, by omega, q⟩
    · obtain ⟨k, hk⟩ := Classical.not_forall.mp q
      have hk1 : k < gN g := Classical.byContradiction (fun z => hk (fun y => absurd y z))
      have hk2 : ¬ lv D g (n + 1) k = lv D g n k := fun z => hk (fun _ => z)
      have := cno_lt (gN g) hk1 hk2
      exact ih (n + 1) (by omega) (by omega)
/-- crossings lead to states of the graph -/
def tgOk (g : gS) : Prop := ∀ k, k < gN g → ∀ e, gF g k ≤ e → e < gF g (k + 1) → (gE g e).2.2.2 < gN g
theorem anyE_ex {g : gS} {k : Nat} {f : Nat → Bool} (h : anyE g k f = true) : ∃ e, gF g k ≤ e ∧ e < gF g (k + 1) ∧ f (gE g e).2.2.2 = true := by
  obtain ⟨e, h1, h2⟩ := List.any_eq_true.mp h
  have := List.mem_range'_1.mp h1
  exact ⟨e, this.1, by omega, h2⟩
theorem anyE_of {g : gS} {k e : Nat} {f : Nat → Bool} (h1 : gF g k ≤ e) (h2 : e < gF g (k + 1)) (h3 : f (gE g e).2.2.2 = true) : anyE g k f = true := by
  refine List.any_eq_true.mpr ⟨e, List.mem_range'_1.mpr ⟨h1, by omega⟩, h3⟩
theorem stab_all {D : tD} {g : gS} {n : Nat} (hT : tgOk g) (h : stab D g n) : ∀ m, n ≤ m → ∀ k, k < gN g → lv D g m k = lv D g n k := by
  intro m
  induction m with
  | zero =>
    intro hm k _
    have : n = 0 := by omega
    rw [this]
  | succ m ih =>
    intro hm k hk
    by_cases q : n = m + 1
    · rw [q]
    by_cases q2 : n = m
    · rw [← q2]; exact h k hk
    have e := ih (by omega)
    rw [lv_s, if_neg, e k hk]
    intro z
    obtain ⟨x, x1, x2, x3⟩ := anyE_ex z.2
    have x4 := of_decide_eq_true x3
    have hj := hT k hk x x1 x2
    rw [e _ hj] at x4
    have := (lv_in (D := D) (g := g) n (gE g x).2.2.2).2
    omega
/-- the distance to a goal; -1: no way -/
def dst (D : tD) (g : gS) (k : Nat) : Int := lv D g 2001 k
theorem dst_stab {D : tD} {g : gS} (hN : gN g ≤ 2000) : ∃ m, m ≤ 2000 ∧ stab D g m := by
  obtain ⟨m, h1, h2⟩ := lv_stab (D := D) (g := g) (cno D g 0 (gN g)) 0 (Nat.le_refl _) (by have := cno_m (D := D) (g := g) (n := 0) (gN g); omega)
  exact ⟨m, by omega, h2⟩
theorem dst_of {D : tD} {g : gS} {n : Nat} (hT : tgOk g) (hN : gN g ≤ 2000) (h : stab D g n) : ∀ k, k < gN g → lv D g n k = dst D g k := by
  intro k hk
  obtain ⟨m, m1, m2⟩ := dst_stab (D := D) hN
  unfold dst
  by_cases q : n ≤ 2001
  · exact (stab_all hT h 2001 q k hk).symm
  · rw [stab_all hT m2 n (by omega) k hk, stab_all hT m2 2001 (by omega) k hk]
theorem dst_in {D : tD} {g : gS} (hT : tgOk g) (hN : gN g ≤ 2000) {k : Nat} (hk : k < gN g) : -1 ≤ dst D g k ∧ dst D g k ≤ 2000 := by
  obtain ⟨m, m1, m2⟩ := dst_stab (D := D) hN
  have e := dst_of hT hN m2 k hk
  have := lv_in (D := D) (g := g) m k
  omega
theorem dst_0 {D : tD} {g : gS} {k : Nat} : dst D g k = 0 ↔ dGoal D (gX g k) = true := by
  have e : lv D g 0 k = if dGoal D (gX g k) = true then 0 else -1 := rfl
  constructor
  · intro h
    have := (lv_own (v := 0) 2001 h).2
    rw [e] at this
    by_cases q : dGoal D (gX g k) = true
    · exact q
    · rw [if_neg q] at this
      omega
  · intro h
    rw [if_pos h] at e
    unfold dst
    rw [lv_keep (n := 0) (by rw [e]; decide) 2001 (by omega), e]
/-- a state that isn't a goal has a crossing to a nearer one -/
theorem dst_dn {D : tD} {g : gS} {k u : Nat} (h : dst D g k = ((u + 1 : Nat) : Int)) : ∃ e, gF g k ≤ e ∧ e < gF g (k + 1) ∧ dst D g (gE g e).2.2.2 = (u : Int) := by
  obtain ⟨h1, h2⟩ := lv_own (v := u + 1) 2001 h
  have hin := (lv_in (D := D) (g := g) u k).2
  by_cases q : lv D g u k = -1 ∧ anyE g k (fun j => decide (lv D g u j = u)) = true
  · obtain ⟨e, e1, e2, e3⟩ := anyE_ex q.2
    have e4 := of_decide_eq_true e3
    refine ⟨e, e1, e2, ?_⟩
    unfold dst
    rw [lv_keep (n := u) (by rw [e4]; omega) 2001 (by omega), e4]
  · rw [lv_s, if_neg q] at h2
    omega
/-- a crossing to a state that has a way -/
theorem dst_up {D : tD} {g : gS} {k e : Nat} (hT : tgOk g) (hN : gN g ≤ 2000) (hk : k < gN g) (h1 : gF g k ≤ e) (h2 : e < gF g (k + 1)) (h3 : 0 ≤ dst D g (gE g e).2.2.2) : 0 ≤ dst D g k ∧ dst D g k ≤ dst D g (gE g e).2.2.2 + 1 := by
  have hj := hT k hk e h1 h2
  have hin := dst_in (D := D) hT hN hj
  generalize hu : (dst D g (gE g e).2.2.2).toNat = u
  have hu2 : dst D g (gE g e).2.2.2 = (u : Int) := by omega
  have hl := (lv_own (v := u) 2001 hu2).2
  by_cases q : lv D g u k = -1
  · have e2 : lv D g (u + 1) k = ((u + 1 : Nat) : Int) := by
      rw [lv_s, if_pos ⟨q, anyE_of h1 h2 (decide_eq_true hl)⟩]
    have e3 : dst D g k = ((u + 1 : Nat) : Int) := by
      unfold dst
      rw [lv_keep (n := u + 1) (by rw [e2]; omega) 2001 (by omega), e2]
    rw [e3, hu2]
    clear e3 hu2 hu hin h3 hl q e2
    exact ⟨by omega, by omega⟩
  · have e3 : dst D g k = lv D g u k := by
      unfold dst
      exact lv_keep q 2001 (by omega)
    have hb := lv_in (D := D) (g := g) u k
    rw [e3, hu2]
    clear e3 hu2 hu hin h3 hl
    exact ⟨by omega, by omega⟩
theorem gOk_tg {D : tD} {act : Nat} {g : gS} (hO : gOk D act g) (hF : ∀ i, i < gN g → gF g i ≤ gF g (i + 1) ∧ gF g (i + 1) ≤ gM g) : tgOk g := fun k hk e _ h2 => (hO.2.2.2.2.2 e (by have := hF k hk; omega)).2.2.2
