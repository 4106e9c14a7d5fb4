/-! ===== rounds, pure: one round, how far, the answer ===== -/
def rLd (D : tD) (b S : Nat) : Prop := S = 0 ∨ S ∈ rLs D b (dAll D)
def rP (D : tD) (n f s : Nat) : Prop := ndiff f (rch D n 0) = 0 ∧ ndiff s (rch D n 1) = 0 ∧ s &&& f = 0 ∧ rOkB D n f s = true
/-- one round leads from n to m -/
def rE (D : tD) (n m : Nat) : Prop := ∃ f s, rLd D 0 f ∧ rLd D 1 s ∧ rP D n f s ∧ m = rNx n f s
def rN0 (D : tD) : Nat := dAt D 0 * 256 + dAt D 1 * 512
def rGl (D : tD) (n : Nat) : Prop := n % 256 = dAll D
def rR (D : tD) (k m : Nat) : Prop := match k with
  | 0 => m = rN0 D
  | j + 1 => dShores D (dStart D) = 0 ∧ ∃ n, rR D j n ∧ rE D n m
/-- the answer -/
def rA (D : tD) (a : Int) : Prop := (∃ (k n : Nat), a = k ∧ rR D k n ∧ rGl D n ∧ ∀ j m, j < k → rR D j m → ¬ rGl D m) ∨ (a = -1 ∧ ∀ j m, rR D j m → ¬ rGl D m)
theorem rA_fun {D : tD} {a a' : Int} (h : rA D a) (h' : rA D a') : a = a' := by
  rcases h with ⟨k, n, e, h1, h2, h3⟩ | ⟨e, h1⟩
  · rcases h' with ⟨k', n', e', h1', h2', h3'⟩ | ⟨e', h1'⟩
    · rcases Nat.lt_trichotomy k k' with z | z | z
      · exact absurd h2 (h3' k n z h1)
      · rw [e, e', z]
      · exact absurd h2' (h3 k' n' z h1')
    · exact absurd h2 (h1' k n h1)
  · rcases h' with ⟨k', n', e', h1', h2', h3'⟩ | ⟨e', h1'⟩
    · exact absurd h2' (h1 k' n' h1')
    · rw [e, e']
/-- depths that are right up to c -/
def rBF (D : tD) (dp : Nat → Int) (c : Int) : Prop := dp (rN0 D) = 0 ∧ (∀ n, 0 ≤ dp n → ∃ k : Nat, dp n = k ∧ rR D k n) ∧ ∀ n, 0 ≤ dp n → dp n < c → ¬ rGl D n ∧ ∀ m, dShores D (dStart D) = 0 → rE D n m → 0 ≤ dp m ∧ dp m ≤ dp n + 1
theorem rBF.all {D : tD} {dp : Nat → Int} {c : Int} (h : rBF D dp c) : ∀ (j m : Nat), (j : Int) ≤ c → rR D j m → 0 ≤ dp m ∧ dp m ≤ j := by
  intro j
  induction j with
  | zero =>
    intro m _ hm
    have hm : m = rN0 D := hm
    rw [hm, h.1]
    exact ⟨Int.le_refl _, Int.le_refl _⟩
  | succ j ih =>
    intro m hj hm
    obtain ⟨h0, n, hn, he⟩ : dShores D (dStart D) = 0 ∧ ∃ n, rR D j n ∧ rE D n m := hm
    have hi := ih n (by omega) hn
    have := (h.2.2 n hi.1 (by omega)).2 m h0 he
    omega
theorem rBF.hit {D : tD} {dp : Nat → Int} {c : Int} {n : Nat} (h : rBF D dp c) (hc : 0 ≤ c) (hn : dp n = c) (hg : rGl D n) : rA D c := by
  obtain ⟨k, e, hk⟩ := h.2.1 n (by omega)
  refine Or.inl ⟨k, n, by omega, hk, hg, fun j m hj hm => ?_⟩
  have := h.all j m (by omega) hm
  exact (h.2.2 m this.1 (by omega)).1
theorem rBF.none {D : tD} {dp : Nat → Int} {c : Int} (h : rBF D dp c) (hc : ∀ n, dp n < c) : rA D (-1) := by
  have key : ∀ (j m : Nat), rR D j m → 0 ≤ dp m := by
    intro j
    induction j with
    | zero =>
      intro m hm
      have hm : m = rN0 D := hm
      rw [hm, h.1]
      exact Int.le_refl _
    | succ j ih =>
      intro m hm
      obtain ⟨h0, n, hn, he⟩ : dShores D (dStart D) = 0 ∧ ∃ n, rR D j n ∧ rE D n m := hm
      exact ((h.2.2 n (ih n hn) (hc n)).2 m h0 he).1
  exact Or.inr ⟨rfl, fun j m hm => (h.2.2 m (key j m hm) (hc m)).1⟩
/-- what is asked, as both sides answer it -/
def rAns (D : tD) (a : Int) : Prop := (rTold D → rA D a) ∧ (¬ rTold D → a = -2)
theorem rAns_fun {D : tD} {a a' : Int} (h : rAns D a) (h' : rAns D a') : a = a' := by
  by_cases c : rTold D
  · exact rA_fun (h.1 c) (h'.1 c)
  · rw [h.2 c, h'.2 c]
theorem rLs_mem {D : tD} {b n S : Nat} : S ∈ rLs D b n ↔ (1 ≤ S ∧ S ≤ n) ∧ dFits D S (dHo D b) (dLo D b) = true ∧ dBars D S (dS D) 1 0 = 0 := by
  unfold rLs
  rw [List.mem_filter, List.mem_range'_1, Bool.and_eq_true, decide_eq_true_iff]
  constructor
  · intro ⟨h1, h2⟩
    exact ⟨⟨h1.1, by omega⟩, h2⟩
  · intro ⟨h1, h2⟩
    exact ⟨⟨h1.1, by omega⟩, h2⟩
theorem rLd_le {D : tD} {b S : Nat} (h : rLd D b S) : S ≤ dAll D := by
  rcases h with h | h
  · omega
  · exact (rLs_mem.1 h).1.2
/-- the queue grows by what one round leads to -/
def XQ (D : tD) (n k : Nat) (q : Nat → Nat) (dp : Nat → Int) (k' : Nat) (q' : Nat → Nat) (dp' : Nat → Int) : Prop :=
  k ≤ k' ∧ (∀ j, j < k → q' j = q j) ∧ (∀ s, ¬ dp s = -1 → dp' s = dp s) ∧ (∀ j, k ≤ j → j < k' → dp (q' j) = -1 ∧ dp' (q' j) = dp n + 1 ∧ rE D n (q' j)) ∧ ∀ s, ¬ dp' s = -1 → dp s = -1 → ∃ j, k ≤ j ∧ j < k' ∧ q' j = s
theorem XQ.rf {D : tD} {n k : Nat} {q : Nat → Nat} {dp : Nat → Int} : XQ D n k q dp k q dp := ⟨Nat.le_refl _, fun _ _ => rfl, fun _ _ => rfl, fun j h1 h2 => absurd h1 (by omega), fun s h1 h2 => absurd h2 h1⟩
theorem XQ.one {D : tD} {n k m : Nat} {q : Nat → Nat} {dp : Nat → Int} (hm : dp m = -1) (hE : rE D n m) (h0 : 0 ≤ dp n) (hq : ∀ j, j < k → ¬ dp (q j) = -1) : XQ D n k q dp (k + 1) (upN q k m) (upI dp m (dp n + 1)) := by
  refine ⟨by omega, fun j hj => upN_ne (by omega), fun s hs => ?_, fun j h1 h2 => ?_, fun s h1 h2 => ?_⟩
  · unfold upI
    rw [if_neg (fun z => hs (by rw [z]; exact hm))]
  · have : j = k := by omega
    subst this
    rw [upN_at]
    exact ⟨hm, by unfold upI; rw [if_pos rfl], hE⟩
  · by_cases z : s = m
    · exact ⟨k, Nat.le_refl _, by omega, by rw [upN_at]; exact z.symm⟩
    · unfold upI at h1
      rw [if_neg z] at h1
      exact absurd h2 h1
theorem XQ.tr {D : tD} {n k k1 k2 : Nat} {q q1 q2 : Nat → Nat} {dp dp1 dp2 : Nat → Int} (h : XQ D n k q dp k1 q1 dp1) (h' : XQ D n k1 q1 dp1 k2 q2 dp2) (hn : 0 ≤ dp n) : XQ D n k q dp k2 q2 dp2 := by
  obtain ⟨a1, a2, a3, a4, a5⟩ := h
  obtain ⟨b1, b2, b3, b4, b5⟩ := h'
  have en : dp1 n = dp n := a3 n (by omega)
  refine ⟨by omega, fun j hj => (b2 j (by omega)).trans (a2 j hj), fun s hs => ?_, fun j h1 h2 => ?_, fun s h1 h2 => ?_⟩
  · have := a3 s hs
    exact (b3 s (by rw [this]; exact hs)).trans this
  · by_cases c : j < k1
    · have := a4 j h1 c
      rw [b2 j c]
      exact ⟨this.1, (b3 _ (by omega)).trans this.2.1, this.2.2⟩
    · have := b4 j (by omega) h2
      refine ⟨?_, by rw [this.2.1, en], this.2.2⟩
      by_cases z : dp (q2 j) = -1
      · exact z
      · rw [a3 _ z] at this
        exact absurd this.1 z
  · by_cases c : dp1 s = -1
    · obtain ⟨j, j1, j2, j3⟩ := b5 s h1 c
      exact ⟨j, by omega, j2, j3⟩
    · obtain ⟨j, j1, j2, j3⟩ := a5 s c h2
      exact ⟨j, j1, by omega, (b2 j j2).trans j3⟩
