/-! ===== search in a row with places that are taken (linear probing) ===== -/
/-- no more than n numbers below n -/
theorem inj_le : ∀ (n M : Nat) (f : Nat → Nat), (∀ i, i < M → f i < n) → (∀ i j, i < M → j < M → f i = f j → i = j) → M ≤ n := by
  intro n
  induction n with
  | zero =>
    intro M f h1 _
    rcases Nat.eq_zero_or_pos M with q | q
    · omega
    · exact absurd (h1 0 q) (by omega)
  | succ n ih =>
    intro M f h1 h2
    cases M with
    | zero => omega
    | succ M =>
      -- the last one's value is taken out
      have key : M ≤ n := by
        refine ih M (fun i => if f i = n then f M else f i) (fun i hi => ?_) (fun i j hi hj e => ?_)
        · have a := h1 i (by omega)
          have b := h1 M (by omega)
          show (if f i = n then f M else f i) < n
          by_cases q : f i = n
          · rw [if_pos q]
            have : ¬ f M = n := fun z => by
              have := h2 i M (by omega) (by omega) (by omega)
              omega
            omega
          · rw [if_neg q]; omega
        · have e : (if f i = n then f M else f i) = (if f j = n then f M else f j) := e
          by_cases q : f i = n
          · by_cases q2 : f j = n
            · exact h2 i j (by omega) (by omega) (by omega)
            · rw [if_pos q, if_neg q2] at e
              have := h2 M j (by omega) (by omega) e
              omega
          · by_cases q2 : f j = n
            · rw [if_neg q, if_pos q2] at e
              have := h2 i M (by omega) (by omega) e
              omega
            · rw [if_neg q, if_neg q2] at e
              exact h2 i j (by omega) (by omega) e
      omega
/-- M places; T i: 0 where free, else the number (and 1) of what lies there; hs: where the search for the k-th begins -/
def pbOk (M n : Nat) (T : Nat → Nat) (hs : Nat → Nat) : Prop := (∀ i, i < M → T i ≤ n) ∧ (∀ i j, i < M → j < M → ¬ T i = 0 → T i = T j → i = j) ∧ ∀ k, k < n → ∃ j, j < M ∧ T ((hs k + j) % M) = k + 1 ∧ ∀ j', j' < j → ¬ T ((hs k + j') % M) = 0
theorem mod_at {M h i : Nat} (hM : 0 < M) (hi : i < M) : ∃ j, j < M ∧ (h + j) % M = i := by
  refine ⟨(i + (M - h % M)) % M, Nat.mod_lt _ hM, ?_⟩
  have h1 := Nat.mod_lt h hM
  rw [Nat.add_mod, Nat.mod_mod, ← Nat.add_mod, Nat.add_mod]
  have e : h % M + (i + (M - h % M)) % M = h % M + (i + (M - h % M)) % M := rfl
  by_cases q : i + (M - h % M) < M
  · rw [Nat.mod_eq_of_lt q, show h % M + (i + (M - h % M)) = i + M by omega, Nat.add_mod_right, Nat.mod_eq_of_lt hi]
  · rw [show i + (M - h % M) = (i - h % M) + M by omega, Nat.add_mod_right, Nat.mod_eq_of_lt (show i - h % M < M by omega), show h % M + (i - h % M) = i by omega, Nat.mod_eq_of_lt hi]
/-- a free place lies on every search's road -/
theorem pb_free {M n : Nat} {T hs : Nat → Nat} (h : pbOk M n T hs) (hn : n < M) (g : Nat) : ∃ j, j < M ∧ T ((g + j) % M) = 0 := by
  have hM : 0 < M := by omega
  rcases Classical.em (∃ i, i < M ∧ T i = 0) with ⟨i, hi, e⟩ | hno
  · obtain ⟨j, hj, e2⟩ := mod_at (h := g) hM hi
    exact ⟨j, hj, by rw [e2]; exact e⟩
  · exfalso
    have nz : ∀ i, i < M → ¬ T i = 0 := fun i hi z => hno ⟨i, hi, z⟩
    have := inj_le n M (fun i => T i - 1) (fun i hi => by
      have := h.1 i hi
      have := nz i hi
      show T i - 1 < n
      omega) (fun i j hi hj e => by
      have a := nz i hi
      have b := nz j hj
      have e : T i - 1 = T j - 1 := e
      exact h.2.1 i j hi hj a (by omega))
    omega
/-- where a search stops: at what is sought, or at the first free place -/
theorem pb_stop {M n : Nat} {T hs : Nat → Nat} (h : pbOk M n T hs) (hn : n < M) (g : Nat) (good : Nat → Prop) : ∃ j, j < M ∧ (T ((g + j) % M) = 0 ∨ (¬ T ((g + j) % M) = 0 ∧ good (T ((g + j) % M) - 1))) ∧ ∀ j', j' < j → ¬ T ((g + j') % M) = 0 ∧ ¬ good (T ((g + j') % M) - 1) := by
  obtain ⟨j0, h0, e0⟩ := pb_free h hn g
  have key : ∀ m j, j + m = j0 → (∀ j', j' < j → ¬ T ((g + j') % M) = 0 ∧ ¬ good (T ((g + j') % M) - 1)) → ∃ j, j < M ∧ (T ((g + j) % M) = 0 ∨ (¬ T ((g + j) % M) = 0 ∧ good (T ((g + j) % M) - 1))) ∧ ∀ j', j' < j → ¬ T ((g + j') % M) = 0 ∧ ¬ good (T ((g + j') % M) - 1) := by
    intro m
    induction m with
    | zero =>
      intro j hj hall
      have : j = j0 := by omega
      subst this
      exact ⟨j, h0, Or.inl e0, hall⟩
    | succ m ih =>
      intro j hj hall
      by_cases q : T ((g + j) % M) = 0
      · exact ⟨j, by omega, Or.inl q, hall⟩
      · by_cases q2 : good (T ((g + j) % M) - 1)
        · exact ⟨j, by omega, Or.inr ⟨q, q2⟩, hall⟩
        · refine ih (j + 1) (by omega) (fun j' hj' => ?_)
          by_cases e : j' = j
          · rw [e]; exact ⟨q, q2⟩
          · exact hall j' (by omega)
  exact key j0 0 (by omega) (fun j' hj' => absurd hj' (by omega))
/-- what is there is found -/
theorem pb_has {M n : Nat} {T hs : Nat → Nat} (h : pbOk M n T hs) {k g j : Nat} (hk : k < n) (hg : hs k = g) (hj : j < M) (hs0 : T ((g + j) % M) = 0) (hall : ∀ j', j' < j → ¬ T ((g + j') % M) - 1 = k) : False := by
  obtain ⟨i, hi, e, hb⟩ := h.2.2 k hk
  rw [hg] at e hb
  rcases Nat.lt_trichotomy i j with q | q | q
  · exact hall i q (by omega)
  · rw [q, hs0] at e; omega
  · exact hb j q hs0
/-- one more, laid where its search stopped -/
theorem pb_add {M n g j : Nat} {T hs hs' : Nat → Nat} (h : pbOk M n T hs) (hh : ∀ k, k < n → hs' k = hs k) (hg : hs' n = g) (hj : j < M) (hM : 0 < M) (h0 : T ((g + j) % M) = 0) (hall : ∀ j', j' < j → ¬ T ((g + j') % M) = 0) : pbOk M (n + 1) (fun i => if i = (g + j) % M then n + 1 else T i) hs' := by
  refine ⟨fun i hi => ?_, fun a b ha hb hz e => ?_, fun k hk => ?_⟩
  · show (if i = (g + j) % M then n + 1 else T i) ≤ n + 1
    have := h.1 i hi
    split <;> omega
  · have hz : ¬ (if a = (g + j) % M then n + 1 else T a) = 0 := hz
    have e : (if a = (g + j) % M then n + 1 else T a) = (if b = (g + j) % M then n + 1 else T b) := e
    have xa := h.1 a ha
    have xb := h.1 b hb
    by_cases qa : a = (g + j) % M
    · by_cases qb : b = (g + j) % M
      · omega
      · rw [if_pos qa, if_neg qb] at e; omega
    · by_cases qb : b = (g + j) % M
      · rw [if_neg qa, if_pos qb] at e; omega
      · rw [if_neg qa, if_neg qb] at e
        rw [if_neg qa] at hz
        exact h.2.1 a b ha hb hz e
  · by_cases q : k = n
    · subst q
      refine ⟨j, hj, ?_, fun j' hj' => ?_⟩
      · show (if (hs' k + j) % M = (g + j) % M then k + 1 else T ((hs' k + j) % M)) = k + 1
        rw [hg, if_pos rfl]
      · show ¬ (if (hs' k + j') % M = (g + j) % M then k + 1 else T ((hs' k + j') % M)) = 0
        rw [hg]
        split
        · omega
        · exact hall j' hj'
    · obtain ⟨i, hi, e, hb⟩ := h.2.2 k (by omega)
      rw [← hh k (by omega)] at e hb
      refine ⟨i, hi, ?_, fun j' hj' => ?_⟩
      · show (if (hs' k + i) % M = (g + j) % M then n + 1 else T ((hs' k + i) % M)) = k + 1
        rw [if_neg (fun z => by rw [z, h0] at e; omega)]
        exact e
      · show ¬ (if (hs' k + j') % M = (g + j) % M then n + 1 else T ((hs' k + j') % M)) = 0
        split
        · omega
        · exact hb j' hj'
theorem pb_nil (M : Nat) (hs : Nat → Nat) : pbOk M 0 (fun _ => 0) hs := ⟨fun _ _ => Nat.le_refl _, fun _ _ _ _ h => absurd rfl h, fun k hk => absurd hk (by omega)⟩
