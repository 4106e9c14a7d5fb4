/-! ===== distances to a goal, as the reference finds them ===== -/
theorem addE_M {D : tD} {g : gS} {k b p S : Nat} : gM g ≤ gM (addE D g k b p S) := by
  unfold addE
  split
  · exact Nat.le_refl _
  · split
    · split
      · exact Nat.le_refl _
      · exact Nat.le_succ _
    · split
      · exact Nat.le_refl _
      · exact Nat.le_succ _
theorem exS_M {D : tD} {act ho lo k s b p : Nat} : ∀ (l : List Nat) (g : gS), gM g ≤ gM (exS D act ho lo k s b p l g) := by
  intro l
  induction l with
  | nil => intro g; exact Nat.le_refl _
  | cons a l ih =>
    intro g
    refine Nat.le_trans ?_ (ih (if okE D act ho lo s b p a = true then addE D g k b p a else g))
    split
    · exact addE_M
    · exact Nat.le_refl _
theorem exP_M {D : tD} {act ho lo k s b : Nat} : ∀ (l : List Nat) (g : gS), gM g ≤ gM (exP D act ho lo k s b l g) := by
  intro l
  induction l with
  | nil => intro g; exact Nat.le_refl _
  | cons a l ih =>
    intro g
    exact Nat.le_trans (exS_M _ _) (ih (exS D act ho lo k s b a (List.range' 1 (dAll D)) g))
theorem exB_M {D : tD} {act ho lo k s : Nat} : ∀ (l : List Nat) (g : gS), gM g ≤ gM (exB D act ho lo k s l g) := by
  intro l
  induction l with
  | nil => intro g; exact Nat.le_refl _
  | cons a l ih =>
    intro g
    exact Nat.le_trans (exP_M _ _) (ih (exP D act ho lo k s a (List.range' 0 (dS D)) g))
theorem exK_M {D : tD} {act ho lo k : Nat} {g : gS} : gM g ≤ gM (exK D act ho lo k g) := by
  unfold exK
  split
  · exact exB_M _ _
  · exact Nat.le_refl _
theorem exK_F {D : tD} {act ho lo k : Nat} {g : gS} : gF (exK D act ho lo k g) = gF g := by
  unfold exK
  split
  · exact exB_F _ _
  · rfl
/-- the rows of first crossings go up -/
def FM (g : gS) (k : Nat) : Prop := gF g k = gM g ∧ ∀ i, i < k → gF g i ≤ gF g (i + 1)
theorem FM_le {g : gS} {k : Nat} (h : FM g k) : ∀ m i, i + m = k → gF g i ≤ gM g := by
  intro m
  induction m with
  | zero =>
    intro i hi
    have e : i = k := by omega
    rw [e, h.1]
    exact Nat.le_refl _
  | succ m ih =>
    intro i hi
    exact Nat.le_trans (h.2 i (by omega)) (ih (i + 1) (by omega))
theorem gRun_FM {D : tD} {act ho lo : Nat} : ∀ (f k : Nat) (g : gS), FM g k → ∃ k', FM (gRun D act ho lo f k g) k' ∧ (gSp (gRun D act ho lo f k g) = true ∨ gN (gRun D act ho lo f k g) ≤ k' ∨ k' = k + f) := by
  intro f
  induction f with
  | zero => intro k g h; exact ⟨k, h, Or.inr (Or.inr rfl)⟩
  | succ f ih =>
    intro k g h
    by_cases c : k < gN g ∧ gSp g = false
    · have e : gRun D act ho lo (f + 1) k g = gRun D act ho lo f (k + 1) (g_f (exK D act ho lo k g) (k + 1)) := by
        show (if k < gN g ∧ gSp g = false then _ else g) = _
        rw [if_pos c]
      rw [e]
      have hn : FM (g_f (exK D act ho lo k g) (k + 1)) (k + 1) := by
        refine ⟨?_, fun i hi => ?_⟩
        · show upN (gF (exK D act ho lo k g)) (k + 1) (gM (exK D act ho lo k g)) (k + 1) = gM (exK D act ho lo k g)
          rw [upN_at]
        · show upN (gF (exK D act ho lo k g)) (k + 1) (gM (exK D act ho lo k g)) i ≤ upN (gF (exK D act ho lo k g)) (k + 1) (gM (exK D act ho lo k g)) (i + 1)
          rw [upN_ne (by omega), exK_F]
          by_cases q : i = k
          · rw [q, upN_at, h.1]
            exact exK_M
          · rw [upN_ne (by omega)]
            exact h.2 i (by omega)
      obtain ⟨k', h1, h2⟩ := ih (k + 1) _ hn
      refine ⟨k', h1, ?_⟩
      rcases h2 with q | q | q
      · exact Or.inl q
      · exact Or.inr (Or.inl q)
      · exact Or.inr (Or.inr (by omega))
    · have e : gRun D act ho lo (f + 1) k g = g := by
        show (if k < gN g ∧ gSp g = false then _ else g) = g
        rw [if_neg c]
      rw [e]
      refine ⟨k, h, ?_⟩
      cases hs : gSp g
      · exact Or.inr (Or.inl (by
          by_cases q : k < gN g
          · exact absurd ⟨q, hs⟩ c
          · omega))
      · exact Or.inl rfl
theorem gAll_F {D : tD} {act ho lo : Nat} (hs : gSp (gAll D act ho lo) = false) (hO : gOk D act (gAll D act ho lo)) : ∀ i, i < gN (gAll D act ho lo) → gF (gAll D act ho lo) i ≤ gF (gAll D act ho lo) (i + 1) ∧ gF (gAll D act ho lo) (i + 1) ≤ gM (gAll D act ho lo) := by
  obtain ⟨k', h1, h2⟩ := gRun_FM (D := D) (act := act) (ho := ho) (lo := lo) 2001 0 (g0 D) ⟨rfl, fun i hi => by omega⟩
  have hN := hO.1.1
  have hk : gN (gAll D act ho lo) ≤ k' := by
    rcases h2 with q | q | q
    · have q : gSp (gAll D act ho lo) = true := q
      rw [hs] at q
      cases q
    · exact q
    · omega
  intro i hi
  exact ⟨h1.2 i (by omega), FM_le h1 (k' - (i + 1)) (i + 1) (by omega)⟩
/-- whether a crossing from k leads to a state that f tells of -/
def anyE (g : gS) (k : Nat) (f : Nat → Bool) : Bool := (List.range' (gF g k) (gF g (k + 1) - gF g k)).any (fun e => f (gE g e).2.2.2)
/-- how far a goal is, looked for up to n crossings; -1: not found -/
def lv (D : tD) (g : gS) (n k : Nat) : Int := match n with
  | 0 => if dGoal D (gX g k) = true then 0 else -1
  | n + 1 => if lv D g n k = -1 ∧ anyE g k (fun j => decide (lv D g n j = n)) = true then ((n + 1 : Nat) : Int) else lv D g n k
theorem lv_in {D : tD} {g : gS} : ∀ (n k : Nat), -1 ≤ lv D g n k ∧ lv D g n k ≤ n := by
  intro n
  induction n with
  | zero =>
    intro k
    unfold lv
    split <;> omega
  | succ n ih =>
    intro k
    have := ih k
    unfold lv
    split <;> omega
/-- how many of the first m states have no way found -/
def cno (D : tD) (g : gS) (n m : Nat) : Nat := match m with
  | 0 => 0
  | m + 1 => cno D g n m + (if lv D g n m = -1 then 1 else 0)
theorem lv_st {D : tD} {g : gS} {n k : Nat} (h : lv D g (n + 1) k = -1) : lv D g n k = -1 := by
  unfold lv at h
  split at h
  · omega
  · exact h
theorem cno_le {D : tD} {g : gS} {n : Nat} : ∀ m, cno D g (n + 1) m ≤ cno D g n m := by
  intro m
  induction m with
  | zero => exact Nat.le_refl _
  | succ m ih =>
    show cno D g (n + 1) m + (if lv D g (n + 1) m = -1 then 1 else 0) ≤ cno D g n m + (if lv D g n m = -1 then 1 else 0)
    by_cases h : lv D g (n + 1) m = -1
    · rw [if_pos h, if_pos (lv_st h)]; omega
    · rw [if_neg h]; omega
theorem cno_lt {D : tD} {g : gS} {n k : Nat} : ∀ m, k < m → ¬ lv D g (n + 1) k = lv D g n k → cno D g (n + 1) m < cno D g n m := by
  intro m
  induction m with
  | zero => intro h; omega
  | succ m ih =>
    intro hk hc
    have hle := cno_le (D := D) (g := g) (n := n) m
    show cno D g (n + 1) m + (if lv D g (n + 1) m = -1 then 1 else 0) < cno D g n m + (if lv D g n m = -1 then 1 else 0)
    by_cases q : k = m
    · rw [q] at hc
      have h1 : lv D g n m = -1 := by
        have e : lv D g (n + 1) m = if lv D g n m = -1 ∧ anyE g m (fun j => decide (lv D g n j = n)) = true then ((n + 1 : Nat) : Int) else lv D g n m := rfl
        by_cases z : lv D g n m = -1 ∧ anyE g m (fun j => decide (lv D g n j = n)) = true
        · exact z.1
        · rw [if_neg z] at e
          exact absurd e hc
      rw [if_pos h1, if_neg (fun z => hc (z.trans h1.symm))]
      omega
    · have := ih (by omega) hc
      by_cases h : lv D g (n + 1) m = -1
      · rw [if_pos h, if_pos (lv_st h)]; omega
      · rw [if_neg h]; omega
theorem cno_m {D : tD} {g : gS} {n : Nat} : ∀ m, cno D g n m ≤ m := by
  intro m
  induction m with
  | zero => exact Nat.le_refl _
  | succ m ih =>
    show cno D g n m + (if lv D g n m = -1 then 1 else 0) ≤ m + 1
    split <;> omega
