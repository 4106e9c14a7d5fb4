/-! ===== depths are distances from the start ===== -/
def tg (g : gS) (e : Nat) : Nat := (gE g e).2.2.2
def eIn (g : gS) (i e : Nat) : Prop := gF g i ≤ e ∧ e < gF g (i + 1)
def mono (g : gS) : Prop := ∀ i j, i ≤ j → j < gN g → gDp g i ≤ gDp g j
/-- while the k-th state is looked at; its crossings begin at m0 -/
def BF (g : gS) (k m0 : Nat) : Prop := (k < gN g ∧ m0 ≤ gM g) ∧ mono g ∧ (∀ i, i < gN g → gDp g i ≤ gDp g k + 1) ∧ (∀ i, i < k → ∀ e, eIn g i e → tg g e < gN g ∧ gDp g (tg g e) ≤ gDp g i + 1) ∧ (∀ e, m0 ≤ e → e < gM g → tg g e < gN g) ∧ (∀ j, 0 < j → j < gN g → (∃ i, i < k ∧ ∃ e, eIn g i e ∧ tg g e = j ∧ gDp g j = gDp g i + 1) ∨ (∃ e, m0 ≤ e ∧ e < gM g ∧ tg g e = j ∧ gDp g j = gDp g k + 1)) ∧ (∀ i, i < k → gF g (i + 1) ≤ m0)
theorem tg_e {g : gS} {b p S j e : Nat} : tg (g_e g (b, p, S, j)) e = if e = gM g then j else tg g e := by
  show (upN (gE g) (gM g) (b, p, S, j) e).2.2.2 = _
  unfold upN
  split <;> rfl
theorem BF_e {g : gS} {k m0 b p S j : Nat} (h : BF g k m0) (hj : j < gN g) : BF (g_e g (b, p, S, j)) k m0 := by
  obtain ⟨⟨h1, h2⟩, h3, h4, h5, h6, h7, h8⟩ := h
  have old : ∀ i e, i < k → eIn g i e → tg (g_e g (b, p, S, j)) e = tg g e := fun i e hi he => by
    have := h8 i hi
    have := he.2
    rw [tg_e, if_neg (by omega)]
  refine ⟨⟨h1, Nat.le_succ_of_le h2⟩, h3, h4, fun i hi e he => ?_, fun e e1 e2 => ?_, fun q q1 q2 => ?_, h8⟩
  · rw [old i e hi he]
    exact h5 i hi e he
  · have e2 : e < gM g + 1 := e2
    rw [tg_e]
    by_cases c : e = gM g
    · rw [if_pos c]; exact hj
    · rw [if_neg c]; exact h6 e e1 (by omega)
  · rcases h7 q q1 q2 with ⟨i, i1, e, e1, e2, e3⟩ | ⟨e, e1, e2, e3, e4⟩
    · exact Or.inl ⟨i, i1, e, e1, by rw [old i e i1 e1]; exact e2, e3⟩
    · refine Or.inr ⟨e, e1, Nat.lt_succ_of_lt e2, ?_, e4⟩
      rw [tg_e, if_neg (by omega)]
      exact e3
theorem BF_x {g : gS} {k m0 b p S s' : Nat} (h : BF g k m0) : BF (g_e (g_x g s' (gDp g k + 1)) (b, p, S, gN g)) k m0 := by
  obtain ⟨⟨h1, h2⟩, h3, h4, h5, h6, h7, h8⟩ := h
  have eN : gN (g_e (g_x g s' (gDp g k + 1)) (b, p, S, gN g)) = gN g + 1 := rfl
  have eM : gM (g_e (g_x g s' (gDp g k + 1)) (b, p, S, gN g)) = gM g + 1 := rfl
  have eF : gF (g_e (g_x g s' (gDp g k + 1)) (b, p, S, gN g)) = gF g := rfl
  have eD : ∀ i, gDp (g_e (g_x g s' (gDp g k + 1)) (b, p, S, gN g)) i = if i = gN g then gDp g k + 1 else gDp g i := fun i => rfl
  have eT : ∀ e, tg (g_e (g_x g s' (gDp g k + 1)) (b, p, S, gN g)) e = if e = gM g then gN g else tg g e := fun e => tg_e
  have eI : ∀ i e, eIn (g_e (g_x g s' (gDp g k + 1)) (b, p, S, gN g)) i e ↔ eIn g i e := fun i e => Iff.rfl
  generalize g_e (g_x g s' (gDp g k + 1)) (b, p, S, gN g) = g' at *
  have old : ∀ i e, i < k → eIn g i e → tg g' e = tg g e := fun i e hi he => by
    have := h8 i hi
    have := he.2
    rw [eT, if_neg (by omega)]
  have dOld : ∀ i, i < gN g → gDp g' i = gDp g i := fun i hi => by rw [eD, if_neg (by omega)]
  refine ⟨⟨by omega, by omega⟩, fun i j hij hj => ?_, fun i hi => ?_, fun i hi e he => ?_, fun e e1 e2 => ?_, fun q q1 q2 => ?_, fun i hi => by rw [eF]; exact h8 i hi⟩
  · rw [eN] at hj
    by_cases c : j = gN g
    · rw [eD j, if_pos c, eD i]
      by_cases c2 : i = gN g
      · rw [if_pos c2]; exact Nat.le_refl _
      · rw [if_neg c2]; exact h4 i (by omega)
    · rw [dOld i (by omega), dOld j (by omega)]
      exact h3 i j hij (by omega)
  · rw [eN] at hi
    rw [dOld k h1, eD i]
    by_cases c : i = gN g
    · rw [if_pos c]; exact Nat.le_refl _
    · rw [if_neg c]; exact h4 i (by omega)
  · have he := (eI i e).mp he
    have := h5 i hi e he
    rw [old i e hi he, dOld _ this.1, dOld i (by omega), eN]
    exact ⟨by omega, this.2⟩
  · rw [eM] at e2
    rw [eT, eN]
    by_cases c : e = gM g
    · rw [if_pos c]; omega
    · rw [if_neg c]
      have := h6 e e1 (by omega)
      omega
  · rw [eN] at q2
    by_cases c : q = gN g
    · refine Or.inr ⟨gM g, h2, by omega, ?_, ?_⟩
      · rw [eT, if_pos rfl, c]
      · rw [eD q, if_pos c, dOld k h1]
    · rcases h7 q q1 (by omega) with ⟨i, i1, e, e1, e2, e3⟩ | ⟨e, e1, e2, e3, e4⟩
      · exact Or.inl ⟨i, i1, e, (eI i e).mpr e1, by rw [old i e i1 e1]; exact e2, by rw [dOld q (by omega), dOld i (by omega)]; exact e3⟩
      · refine Or.inr ⟨e, e1, by omega, ?_, by rw [dOld q (by omega), dOld k h1]; exact e4⟩
        rw [eT, if_neg (by omega)]
        exact e3
theorem addE_BF {D : tD} {g : gS} {k m0 b p S : Nat} (h : BF g k m0) : BF (addE D g k b p S) k m0 := by
  unfold addE
  split
  · exact h
  · split
    · rename_i j hj
      split
      · exact h
      · exact BF_e h (fnd_some hj).1
    · split
      · exact h
      · exact BF_x h
theorem exS_BF {D : tD} {act ho lo k s b p m0 : Nat} : ∀ (l : List Nat) (g : gS), BF g k m0 → BF (exS D act ho lo k s b p l g) k m0 := by
  intro l
  induction l with
  | nil => intro g h; exact h
  | cons a l ih =>
    intro g h
    refine ih (if okE D act ho lo s b p a = true then addE D g k b p a else g) ?_
    split
    · exact addE_BF h
    · exact h
theorem exP_BF {D : tD} {act ho lo k s b m0 : Nat} : ∀ (l : List Nat) (g : gS), BF g k m0 → BF (exP D act ho lo k s b l g) k m0 := by
  intro l
  induction l with
  | nil => intro g h; exact h
  | cons a l ih =>
    intro g h
    exact ih (exS D act ho lo k s b a (List.range' 1 (dAll D)) g) (exS_BF _ _ h)
theorem exB_BF {D : tD} {act ho lo k s m0 : Nat} : ∀ (l : List Nat) (g : gS), BF g k m0 → BF (exB D act ho lo k s l g) k m0 := by
  intro l
  induction l with
  | nil => intro g h; exact h
  | cons a l ih =>
    intro g h
    exact ih (exP D act ho lo k s a (List.range' 0 (dS D)) g) (exP_BF _ _ h)
theorem exK_BF {D : tD} {act ho lo k m0 : Nat} {g : gS} (h : BF g k m0) : BF (exK D act ho lo k g) k m0 := by
  unfold exK
  split
  · exact exB_BF _ _ h
  · exact h
/-- between two states -/
def BG (g : gS) (k : Nat) : Prop := (gF g k = gM g ∧ k ≤ gN g) ∧ mono g ∧ (k < gN g → ∀ i, i < gN g → gDp g i ≤ gDp g k + 1) ∧ (∀ i, i < k → ∀ e, eIn g i e → tg g e < gN g ∧ gDp g (tg g e) ≤ gDp g i + 1) ∧ (∀ j, 0 < j → j < gN g → ∃ i, i < k ∧ ∃ e, eIn g i e ∧ tg g e = j ∧ gDp g j = gDp g i + 1) ∧ (∀ i, i < k → gF g (i + 1) ≤ gM g)
theorem BG_BF {g : gS} {k : Nat} (h : BG g k) (hk : k < gN g) : BF g k (gM g) := ⟨⟨hk, Nat.le_refl _⟩, h.2.1, h.2.2.1 hk, h.2.2.2.1, fun e e1 e2 => by omega, fun j j1 j2 => Or.inl (h.2.2.2.2.1 j j1 j2), h.2.2.2.2.2⟩
theorem BF_BG {g : gS} {k m0 : Nat} (h : BF g k m0) (hF : gF g k = m0) : BG (g_f g (k + 1)) (k + 1) := by
  obtain ⟨⟨h1, h2⟩, h3, h4, h5, h6, h7, h8⟩ := h
  have eF : ∀ i, gF (g_f g (k + 1)) i = if i = k + 1 then gM g else gF g i := fun i => rfl
  have eI : ∀ i e, i < k → (eIn (g_f g (k + 1)) i e ↔ eIn g i e) := fun i e hi => by
    unfold eIn
    rw [eF, eF, if_neg (by omega), if_neg (by omega)]
  have eK : ∀ e, eIn (g_f g (k + 1)) k e ↔ (m0 ≤ e ∧ e < gM g) := fun e => by
    unfold eIn
    rw [eF, eF, if_neg (by omega), if_pos rfl, hF]
  refine ⟨⟨by rw [eF, if_pos rfl]; rfl, h1⟩, h3, fun hk i hi => ?_, fun i hi e he => ?_, fun j j1 j2 => ?_, fun i hi => ?_⟩
  · have a := h4 i hi
    have b := h3 k (k + 1) (by omega) hk
    show gDp g i ≤ gDp g (k + 1) + 1
    omega
  · show tg g e < gN g ∧ gDp g (tg g e) ≤ gDp g i + 1
    by_cases c : i = k
    · rw [c] at he ⊢
      have he := (eK e).mp he
      have a := h6 e he.1 he.2
      exact ⟨a, h4 _ a⟩
    · exact h5 i (by omega) e ((eI i e (by omega)).mp he)
  · rcases h7 j j1 j2 with ⟨i, i1, e, e1, e2, e3⟩ | ⟨e, e1, e2, e3, e4⟩
    · exact ⟨i, by omega, e, (eI i e i1).mpr e1, e2, e3⟩
    · exact ⟨k, by omega, e, (eK e).mpr ⟨e1, e2⟩, e3, e4⟩
  · show gF (g_f g (k + 1)) (i + 1) ≤ gM g
    rw [eF]
    by_cases c : i = k
    · rw [if_pos (by omega)]; exact Nat.le_refl _
    · rw [if_neg (by omega)]
      have := h8 i (by omega)
      omega
theorem gRun_BG {D : tD} {act ho lo : Nat} : ∀ (f k : Nat) (g : gS), BG g k → ∃ k', BG (gRun D act ho lo f k g) k' ∧ (gSp (gRun D act ho lo f k g) = true ∨ gN (gRun D act ho lo f k g) ≤ k' ∨ k' = k + f) := by
  intro f
  induction f with
  | zero => intro k g h; exact ⟨k, h, Or.inr (Or.inr rfl)⟩
  | succ f ih =>
    intro k g h
    by_cases c : k < gN g ∧ gSp g = false
    · have e : gRun D act ho lo (f + 1) k g = gRun D act ho lo f (k + 1) (g_f (exK D act ho lo k g) (k + 1)) := by
        show (if k < gN g ∧ gSp g = false then _ else g) = _
        rw [if_pos c]
      rw [e]
      have hn : BG (g_f (exK D act ho lo k g) (k + 1)) (k + 1) := BF_BG (exK_BF (BG_BF h c.1)) (by rw [exK_F]; exact h.1.1)
      obtain ⟨k', h1, h2⟩ := ih (k + 1) _ hn
      refine ⟨k', h1, ?_⟩
      rcases h2 with q | q | q
      · exact Or.inl q
      · exact Or.inr (Or.inl q)
      · exact Or.inr (Or.inr (by omega))
    · have e : gRun D act ho lo (f + 1) k g = g := by
        show (if k < gN g ∧ gSp g = false then _ else g) = g
        rw [if_neg c]
      rw [e]
      refine ⟨k, h, ?_⟩
      cases hs : gSp g
      · exact Or.inr (Or.inl (by
          by_cases q : k < gN g
          · exact absurd ⟨q, hs⟩ c
          · omega))
      · exact Or.inl rfl
theorem g0_BG (D : tD) : BG (g0 D) 0 := by
  refine ⟨⟨rfl, Nat.zero_le _⟩, fun i j _ _ => Nat.le_refl _, fun _ i _ => Nat.zero_le _, fun i hi => by omega, fun j j1 j2 => ?_, fun i hi => by omega⟩
  have j2 : j < 1 := j2
  omega
/-- the whole graph: depths go up; a crossing goes one deeper at most; each state but the first has one that leads to it from one less deep -/
theorem gAll_B {D : tD} {act ho lo : Nat} (hs : gSp (gAll D act ho lo) = false) (hO : gOk D act (gAll D act ho lo)) : mono (gAll D act ho lo) ∧ (∀ i, i < gN (gAll D act ho lo) → ∀ e, eIn (gAll D act ho lo) i e → tg (gAll D act ho lo) e < gN (gAll D act ho lo) ∧ gDp (gAll D act ho lo) (tg (gAll D act ho lo) e) ≤ gDp (gAll D act ho lo) i + 1) ∧ ∀ j, 0 < j → j < gN (gAll D act ho lo) → ∃ i, i < gN (gAll D act ho lo) ∧ ∃ e, eIn (gAll D act ho lo) i e ∧ tg (gAll D act ho lo) e = j ∧ gDp (gAll D act ho lo) j = gDp (gAll D act ho lo) i + 1 := by
  obtain ⟨k', h1, h2⟩ := gRun_BG (D := D) (act := act) (ho := ho) (lo := lo) 2001 0 (g0 D) (g0_BG D)
  have hN := hO.1.1
  have hk : gN (gAll D act ho lo) ≤ k' := by
    rcases h2 with q | q | q
    · have q : gSp (gAll D act ho lo) = true := q
      rw [hs] at q
      cases q
    · exact q
    · omega
  refine ⟨h1.2.1, fun i hi e he => h1.2.2.2.1 i (by omega) e he, fun j j1 j2 => ?_⟩
  obtain ⟨i, i1, e, r⟩ := h1.2.2.2.2.1 j j1 j2
  exact ⟨i, Nat.lt_of_lt_of_le i1 h1.1.2, e, r⟩
