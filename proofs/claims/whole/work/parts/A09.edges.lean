/-! ===== the graph: where a crossing leads, and that none is wanting ===== -/
def eTo (D : tD) (g : gS) (s e : Nat) : Prop := tg g e < gN g ∧ gX g (tg g e) = dAfter D s (gE g e).1 (gE g e).2.1 (gE g e).2.2.1
def gle (D : tD) (k : Nat) (g g' : gS) : Prop := gN g ≤ gN g' ∧ gM g ≤ gM g' ∧ (∀ i, i < gN g → gX g' i = gX g i) ∧ (∀ e, e < gM g → gE g' e = gE g e) ∧ (∀ e, gM g ≤ e → e < gM g' → eTo D g' (gX g k) e) ∧ (gSp g = true → gSp g' = true)
theorem gle.rf {D : tD} {k : Nat} (g : gS) : gle D k g g := ⟨Nat.le_refl _, Nat.le_refl _, fun _ _ => rfl, fun _ _ => rfl, fun e h1 h2 => by omega, fun h => h⟩
theorem gle.tr {D : tD} {k : Nat} {g g1 g2 : gS} (hk : k < gN g) (h : gle D k g g1) (h' : gle D k g1 g2) : gle D k g g2 := by
  obtain ⟨a1, a2, a3, a4, a5, a6⟩ := h
  obtain ⟨b1, b2, b3, b4, b5, b6⟩ := h'
  refine ⟨by omega, by omega, fun i hi => by rw [b3 i (by omega), a3 i hi], fun e he => by rw [b4 e (by omega), a4 e he], fun e h1 h2 => ?_, fun z => b6 (a6 z)⟩
  by_cases c : e < gM g1
  · obtain ⟨t1, t2⟩ := a5 e h1 c
    have ee : gE g2 e = gE g1 e := b4 e c
    have et : tg g2 e = tg g1 e := by unfold tg; rw [ee]
    refine ⟨by rw [et]; omega, ?_⟩
    rw [et, b3 _ t1, ee]
    exact t2
  · have := b5 e (by omega) h2
    rw [a3 k hk] at this
    exact this
theorem addE_le {D : tD} {g : gS} {k b p S : Nat} : gle D k g (addE D g k b p S) := by
  unfold addE
  by_cases c : gSp g = true
  · rw [if_pos c]; exact gle.rf g
  · rw [if_neg c]
    have sp : gle D k g (g_sp g) := ⟨Nat.le_refl _, Nat.le_refl _, fun _ _ => rfl, fun _ _ => rfl, fun e h1 h2 => by have h2 : e < gM g := h2; omega, fun _ => rfl⟩
    split
    · rename_i j hj
      have hf := fnd_some hj
      split
      · exact sp
      · refine ⟨Nat.le_refl _, Nat.le_succ _, fun _ _ => rfl, fun e he => upN_ne (by omega), fun e h1 h2 => ?_, fun z => absurd z c⟩
        have h2 : e < gM g + 1 := h2
        have : e = gM g := by omega
        subst this
        have ee : gE (g_e g (b, p, S, j)) (gM g) = (b, p, S, j) := upN_at _ _ _
        unfold eTo tg
        rw [ee]
        exact ⟨hf.1, hf.2⟩
    · split
      · exact sp
      · refine ⟨Nat.le_succ _, Nat.le_succ _, fun i hi => upN_ne (by omega), fun e he => upN_ne (show ¬ e = gM g by omega), fun e h1 h2 => ?_, fun z => absurd z c⟩
        have h2 : e < gM g + 1 := h2
        have : e = gM g := by omega
        subst this
        have ee : gE (g_e (g_x g (dAfter D (gX g k) b p S) (gDp g k + 1)) (b, p, S, gN g)) (gM g) = (b, p, S, gN g) := upN_at _ _ _
        unfold eTo tg
        rw [ee]
        exact ⟨Nat.lt_succ_self _, upN_at _ _ _⟩
theorem addE_new {D : tD} {g : gS} {k b p S : Nat} : gSp (addE D g k b p S) = true ∨ ∃ e, gM g ≤ e ∧ e < gM (addE D g k b p S) ∧ (gE (addE D g k b p S) e).1 = b ∧ (gE (addE D g k b p S) e).2.1 = p ∧ (gE (addE D g k b p S) e).2.2.1 = S := by
  unfold addE
  by_cases c : gSp g = true
  · rw [if_pos c]; exact Or.inl c
  · rw [if_neg c]
    split
    · rename_i j hj
      split
      · exact Or.inl rfl
      · refine Or.inr ⟨gM g, Nat.le_refl _, Nat.lt_succ_self _, ?_⟩
        have ee : gE (g_e g (b, p, S, j)) (gM g) = (b, p, S, j) := upN_at _ _ _
        rw [ee]
        exact ⟨rfl, rfl, rfl⟩
    · split
      · exact Or.inl rfl
      · refine Or.inr ⟨gM g, Nat.le_refl _, Nat.lt_succ_self _, ?_⟩
        have ee : gE (g_e (g_x g (dAfter D (gX g k) b p S) (gDp g k + 1)) (b, p, S, gN g)) (gM g) = (b, p, S, gN g) := upN_at _ _ _
        rw [ee]
        exact ⟨rfl, rfl, rfl⟩
theorem fold_le {α : Type} {D : tD} {k : Nat} {f : gS → α → gS} (hf : ∀ g a, k < gN g → gle D k g (f g a)) : ∀ (l : List α) (g : gS), k < gN g → gle D k g (l.foldl f g) := by
  intro l
  induction l with
  | nil => intro g _; exact gle.rf g
  | cons a l ih =>
    intro g hk
    have h1 := hf g a hk
    exact gle.tr hk h1 (ih (f g a) (Nat.lt_of_lt_of_le hk h1.1))
section
variable {D : tD} {act ho lo k s b p : Nat}
theorem exS_le (l : List Nat) (g : gS) (hk : k < gN g) : gle D k g (exS D act ho lo k s b p l g) := by
  refine fold_le (fun g S _ => ?_) l g hk
  split
  · exact addE_le
  · exact gle.rf g
theorem exP_le (l : List Nat) (g : gS) (hk : k < gN g) : gle D k g (exP D act ho lo k s b l g) := fold_le (fun g p hk => exS_le _ g hk) l g hk
theorem exB_le (l : List Nat) (g : gS) (hk : k < gN g) : gle D k g (exB D act ho lo k s l g) := fold_le (fun g b hk => exP_le _ g hk) l g hk
theorem exS_all (l : List Nat) (g : gS) (hk : k < gN g) {S : Nat} (hS : S ∈ l) (ho1 : okE D act ho lo s b p S = true) : gSp (exS D act ho lo k s b p l g) = true ∨ ∃ e, gM g ≤ e ∧ e < gM (exS D act ho lo k s b p l g) ∧ (gE (exS D act ho lo k s b p l g) e).1 = b ∧ (gE (exS D act ho lo k s b p l g) e).2.1 = p ∧ (gE (exS D act ho lo k s b p l g) e).2.2.1 = S := by
  by_cases hsp : gSp (exS D act ho lo k s b p l g) = true
  · exact Or.inl hsp
  · refine Or.inr ?_
    induction l generalizing g with
    | nil => cases hS
    | cons x l ih =>
      have hx : k < gN (if okE D act ho lo s b p x = true then addE D g k b p x else g) := by
        split
        · exact Nat.lt_of_lt_of_le hk (addE_le (D := D)).1
        · exact hk
      have h2 : gle D k (if okE D act ho lo s b p x = true then addE D g k b p x else g) (exS D act ho lo k s b p l (if okE D act ho lo s b p x = true then addE D g k b p x else g)) := exS_le l _ hx
      rw [exS_cons] at hsp ⊢
      by_cases z : S = x
      · subst z
        rw [if_pos ho1] at h2 hsp ⊢
        rcases addE_new (D := D) (g := g) (k := k) (b := b) (p := p) (S := S) with q | ⟨e, e1, e2, e3⟩
        · exact absurd (h2.2.2.2.2.2 q) hsp
        · exact ⟨e, e1, Nat.lt_of_lt_of_le e2 h2.2.1, by rw [h2.2.2.2.1 e e2]; exact e3⟩
      · have hS : S ∈ l := (List.mem_cons.mp hS).resolve_left z
        obtain ⟨e, e1, e2, e3⟩ := ih _ hx hS hsp
        refine ⟨e, Nat.le_trans ?_ e1, e2, e3⟩
        split
        · exact (addE_le (D := D)).2.1
        · exact Nat.le_refl _
theorem exP_all (l : List Nat) (g : gS) (hk : k < gN g) {p S : Nat} (hp : p ∈ l) (hS : S ∈ List.range' 1 (dAll D)) (ho1 : okE D act ho lo s b p S = true) : gSp (exP D act ho lo k s b l g) = true ∨ ∃ e, gM g ≤ e ∧ e < gM (exP D act ho lo k s b l g) ∧ (gE (exP D act ho lo k s b l g) e).1 = b ∧ (gE (exP D act ho lo k s b l g) e).2.1 = p ∧ (gE (exP D act ho lo k s b l g) e).2.2.1 = S := by
  induction l generalizing g with
  | nil => cases hp
  | cons x l ih =>
    have h1 : gle D k g (exS D act ho lo k s b x (List.range' 1 (dAll D)) g) := exS_le _ g hk
    have hx := Nat.lt_of_lt_of_le hk h1.1
    have h2 : gle D k (exS D act ho lo k s b x (List.range' 1 (dAll D)) g) (exP D act ho lo k s b l (exS D act ho lo k s b x (List.range' 1 (dAll D)) g)) := exP_le l _ hx
    show gSp (exP D act ho lo k s b l (exS D act ho lo k s b x (List.range' 1 (dAll D)) g)) = true ∨ ∃ e, gM g ≤ e ∧ e < gM (exP D act ho lo k s b l (exS D act ho lo k s b x (List.range' 1 (dAll D)) g)) ∧ (gE (exP D act ho lo k s b l (exS D act ho lo k s b x (List.range' 1 (dAll D)) g)) e).1 = b ∧ (gE (exP D act ho lo k s b l (exS D act ho lo k s b x (List.range' 1 (dAll D)) g)) e).2.1 = p ∧ (gE (exP D act ho lo k s b l (exS D act ho lo k s b x (List.range' 1 (dAll D)) g)) e).2.2.1 = S
    by_cases z : p = x
    · subst z
      rcases exS_all (List.range' 1 (dAll D)) g hk hS ho1 with q | ⟨e, e1, e2, e3⟩
      · exact Or.inl (h2.2.2.2.2.2 q)
      · exact Or.inr ⟨e, e1, Nat.lt_of_lt_of_le e2 h2.2.1, by rw [h2.2.2.2.1 e e2]; exact e3⟩
    · rcases ih _ hx ((List.mem_cons.mp hp).resolve_left z) with q | ⟨e, e1, e2, e3⟩
      · exact Or.inl q
      · exact Or.inr ⟨e, Nat.le_trans h1.2.1 e1, e2, e3⟩
theorem exB_all (l : List Nat) (g : gS) (hk : k < gN g) {b p S : Nat} (hb : b ∈ l) (hp : p ∈ List.range' 0 (dS D)) (hS : S ∈ List.range' 1 (dAll D)) (ho1 : okE D act ho lo s b p S = true) : gSp (exB D act ho lo k s l g) = true ∨ ∃ e, gM g ≤ e ∧ e < gM (exB D act ho lo k s l g) ∧ (gE (exB D act ho lo k s l g) e).1 = b ∧ (gE (exB D act ho lo k s l g) e).2.1 = p ∧ (gE (exB D act ho lo k s l g) e).2.2.1 = S := by
  induction l generalizing g with
  | nil => cases hb
  | cons x l ih =>
    have h1 : gle D k g (exP D act ho lo k s x (List.range' 0 (dS D)) g) := exP_le _ g hk
    have hx := Nat.lt_of_lt_of_le hk h1.1
    have h2 : gle D k (exP D act ho lo k s x (List.range' 0 (dS D)) g) (exB D act ho lo k s l (exP D act ho lo k s x (List.range' 0 (dS D)) g)) := exB_le l _ hx
    show gSp (exB D act ho lo k s l (exP D act ho lo k s x (List.range' 0 (dS D)) g)) = true ∨ ∃ e, gM g ≤ e ∧ e < gM (exB D act ho lo k s l (exP D act ho lo k s x (List.range' 0 (dS D)) g)) ∧ (gE (exB D act ho lo k s l (exP D act ho lo k s x (List.range' 0 (dS D)) g)) e).1 = b ∧ (gE (exB D act ho lo k s l (exP D act ho lo k s x (List.range' 0 (dS D)) g)) e).2.1 = p ∧ (gE (exB D act ho lo k s l (exP D act ho lo k s x (List.range' 0 (dS D)) g)) e).2.2.1 = S
    by_cases z : b = x
    · subst z
      rcases exP_all (List.range' 0 (dS D)) g hk hp hS ho1 with q | ⟨e, e1, e2, e3⟩
      · exact Or.inl (h2.2.2.2.2.2 q)
      · exact Or.inr ⟨e, e1, Nat.lt_of_lt_of_le e2 h2.2.1, by rw [h2.2.2.2.1 e e2]; exact e3⟩
    · rcases ih _ hx ((List.mem_cons.mp hb).resolve_left z) with q | ⟨e, e1, e2, e3⟩
      · exact Or.inl q
      · exact Or.inr ⟨e, Nat.le_trans h1.2.1 e1, e2, e3⟩
end
section
variable {D : tD} {act ho lo : Nat}
theorem exK_le {k : Nat} {g : gS} (hk : k < gN g) : gle D k g (exK D act ho lo k g) := by
  unfold exK
  split
  · exact exB_le _ g hk
  · exact gle.rf g
/-- between two states -/
def EQ (D : tD) (act ho lo : Nat) (g : gS) (k : Nat) : Prop := (gF g k = gM g ∧ k ≤ gN g) ∧ (∀ i, i < k → gF g (i + 1) ≤ gM g) ∧ ∀ i, i < k → (∀ e, eIn g i e → eTo D g (gX g i) e) ∧ (gSp g = false → dShores D (dStart D) &&& act = 0 → ∀ b p S, b < dB D → p < dS D → 1 ≤ S → S ≤ dAll D → okE D act ho lo (gX g i) b p S = true → ∃ e, eIn g i e ∧ (gE g e).1 = b ∧ (gE g e).2.1 = p ∧ (gE g e).2.2.1 = S)
theorem EQ_next {g : gS} {k : Nat} (hk : k < gN g) (h : EQ D act ho lo g k) : EQ D act ho lo (g_f (exK D act ho lo k g) (k + 1)) (k + 1) := by
  obtain ⟨⟨h1, -⟩, h2, h3⟩ := h
  have hl : gle D k g (exK D act ho lo k g) := exK_le hk
  have hFx : gF (exK D act ho lo k g) = gF g := exK_F
  have hal : gSp (exK D act ho lo k g) = false → dShores D (dStart D) &&& act = 0 → ∀ b p S, b < dB D → p < dS D → 1 ≤ S → S ≤ dAll D → okE D act ho lo (gX g k) b p S = true → ∃ e, gM g ≤ e ∧ e < gM (exK D act ho lo k g) ∧ (gE (exK D act ho lo k g) e).1 = b ∧ (gE (exK D act ho lo k g) e).2.1 = p ∧ (gE (exK D act ho lo k g) e).2.2.1 = S := by
    intro hsp hst b p S hb hp hS1 hS2 hok
    unfold exK at hsp ⊢
    rw [if_pos hst] at hsp ⊢
    rcases exB_all (List.range' 0 (dB D)) g hk (List.mem_range'_1.mpr ⟨by omega, by omega⟩) (List.mem_range'_1.mpr ⟨by omega, by omega⟩) (List.mem_range'_1.mpr ⟨hS1, by omega⟩) hok with q | q
    · rw [hsp] at q; cases q
    · exact q
  generalize exK D act ho lo k g = g' at *
  have eF : ∀ i, gF (g_f g' (k + 1)) i = if i = k + 1 then gM g' else gF g i := fun i => by rw [← hFx]; rfl
  have eI : ∀ i e, i < k → (eIn (g_f g' (k + 1)) i e ↔ eIn g i e) := fun i e hi => by
    unfold eIn
    rw [eF, eF, if_neg (by omega), if_neg (by omega)]
  have eK : ∀ e, eIn (g_f g' (k + 1)) k e ↔ (gM g ≤ e ∧ e < gM g') := fun e => by
    unfold eIn
    rw [eF, eF, if_neg (by omega), if_pos rfl, h1]
  obtain ⟨l1, l2, l3, l4, l5, l6⟩ := hl
  refine ⟨⟨by rw [eF, if_pos rfl]; rfl, Nat.lt_of_lt_of_le hk l1⟩, fun i hi => ?_, fun i hi => ?_⟩
  · show gF (g_f g' (k + 1)) (i + 1) ≤ gM g'
    rw [eF]
    by_cases c : i = k
    · rw [if_pos (by omega)]; exact Nat.le_refl _
    · rw [if_neg (by omega)]
      exact Nat.le_trans (h2 i (by omega)) l2
  · by_cases c : i = k
    · subst c
      refine ⟨fun e he => ?_, fun hsp hst b p S a1 a2 a3 a4 a5 => ?_⟩
      · have he := (eK e).mp he
        have := l5 e he.1 he.2
        show eTo D g' (gX g' i) e
        rw [l3 i hk]
        exact this
      · have a5 : okE D act ho lo (gX g' i) b p S = true := a5
        rw [l3 i hk] at a5
        obtain ⟨e, e1, e2, e3⟩ := hal hsp hst b p S a1 a2 a3 a4 a5
        exact ⟨e, (eK e).mpr ⟨e1, e2⟩, e3⟩
    · have hi : i < k := by omega
      have hiN : i < gN g := by omega
      refine ⟨fun e he => ?_, fun hsp hst b p S a1 a2 a3 a4 a5 => ?_⟩
      · have he := (eI i e hi).mp he
        have hm : e < gM g := by have := h2 i hi; have := he.2; omega
        obtain ⟨t1, t2⟩ := (h3 i hi).1 e he
        have ee : gE g' e = gE g e := l4 e hm
        have et : tg g' e = tg g e := by unfold tg; rw [ee]
        show tg g' e < gN g' ∧ gX g' (tg g' e) = dAfter D (gX g' i) (gE g' e).1 (gE g' e).2.1 (gE g' e).2.2.1
        rw [et, ee, l3 _ t1, l3 i hiN]
        exact ⟨Nat.lt_of_lt_of_le t1 l1, t2⟩
      · have hsp : gSp g' = false := hsp
        have hsg : gSp g = false := by
          cases hq : gSp g with
          | false => rfl
          | true => rw [l6 hq] at hsp; cases hsp
        have a5 : okE D act ho lo (gX g' i) b p S = true := a5
        rw [l3 i hiN] at a5
        obtain ⟨e, e1, e2⟩ := (h3 i hi).2 hsg hst b p S a1 a2 a3 a4 a5
        have hm : e < gM g := by have := h2 i hi; have := e1.2; omega
        refine ⟨e, (eI i e hi).mpr e1, ?_⟩
        show (gE g' e).1 = b ∧ (gE g' e).2.1 = p ∧ (gE g' e).2.2.1 = S
        rw [l4 e hm]
        exact e2
theorem gRun_EQ : ∀ (f k : Nat) (g : gS), EQ D act ho lo g k → ∃ k', EQ D act ho lo (gRun D act ho lo f k g) k' ∧ (gSp (gRun D act ho lo f k g) = true ∨ gN (gRun D act ho lo f k g) ≤ k' ∨ k' = k + f) := by
  intro f
  induction f with
  | zero => intro k g h; exact ⟨k, h, Or.inr (Or.inr rfl)⟩
  | succ f ih =>
    intro k g h
    by_cases c : k < gN g ∧ gSp g = false
    · have e : gRun D act ho lo (f + 1) k g = gRun D act ho lo f (k + 1) (g_f (exK D act ho lo k g) (k + 1)) := by
        show (if k < gN g ∧ gSp g = false then _ else g) = _
        rw [if_pos c]
      rw [e]
      obtain ⟨k', h1, h2⟩ := ih (k + 1) _ (EQ_next c.1 h)
      refine ⟨k', h1, ?_⟩
      rcases h2 with q | q | q
      · exact Or.inl q
      · exact Or.inr (Or.inl q)
      · exact Or.inr (Or.inr (by omega))
    · have e : gRun D act ho lo (f + 1) k g = g := by
        show (if k < gN g ∧ gSp g = false then _ else g) = g
        rw [if_neg c]
      rw [e]
      refine ⟨k, h, ?_⟩
      cases hs : gSp g
      · exact Or.inr (Or.inl (by
          by_cases q : k < gN g
          · exact absurd ⟨q, hs⟩ c
          · omega))
      · exact Or.inl rfl
/-- the whole graph: where a crossing leads, and that none is wanting -/
theorem gAll_E (hs : gSp (gAll D act ho lo) = false) (hO : gOk D act (gAll D act ho lo)) : ∀ i, i < gN (gAll D act ho lo) → (∀ e, eIn (gAll D act ho lo) i e → eTo D (gAll D act ho lo) (gX (gAll D act ho lo) i) e) ∧ (dShores D (dStart D) &&& act = 0 → ∀ b p S, b < dB D → p < dS D → 1 ≤ S → S ≤ dAll D → okE D act ho lo (gX (gAll D act ho lo) i) b p S = true → ∃ e, eIn (gAll D act ho lo) i e ∧ (gE (gAll D act ho lo) e).1 = b ∧ (gE (gAll D act ho lo) e).2.1 = p ∧ (gE (gAll D act ho lo) e).2.2.1 = S) := by
  obtain ⟨k', h1, h2⟩ := gRun_EQ (D := D) (act := act) (ho := ho) (lo := lo) 2001 0 (g0 D) ⟨⟨rfl, Nat.zero_le _⟩, fun i hi => by omega, fun i hi => by omega⟩
  have hN := hO.1.1
  have hk : gN (gAll D act ho lo) ≤ k' := by
    rcases h2 with q | q | q
    · have q : gSp (gAll D act ho lo) = true := q
      rw [hs] at q
      cases q
    · exact q
    · omega
  intro i hi
  have := h1.2.2 i (by omega)
  exact ⟨this.1, fun hst b p S a1 a2 a3 a4 a5 => this.2 hs hst b p S a1 a2 a3 a4 a5⟩
theorem gRun_x0 : ∀ (f k : Nat) (g : gS), 0 < gN g → gX (gRun D act ho lo f k g) 0 = gX g 0 := by
  intro f
  induction f with
  | zero => intro k g _; rfl
  | succ f ih =>
    intro k g h
    by_cases c : k < gN g ∧ gSp g = false
    · have e : gRun D act ho lo (f + 1) k g = gRun D act ho lo f (k + 1) (g_f (exK D act ho lo k g) (k + 1)) := by
        show (if k < gN g ∧ gSp g = false then _ else g) = _
        rw [if_pos c]
      have hl : gle D k g (exK D act ho lo k g) := exK_le c.1
      rw [e]
      exact (ih (k + 1) (g_f (exK D act ho lo k g) (k + 1)) (Nat.lt_of_lt_of_le h hl.1)).trans (hl.2.2.1 0 h)
    · have e : gRun D act ho lo (f + 1) k g = g := by
        show (if k < gN g ∧ gSp g = false then _ else g) = g
        rw [if_neg c]
      rw [e]
theorem gAll_x0 : gX (gAll D act ho lo) 0 = dStart D := gRun_x0 2001 0 (g0 D) (Nat.lt_succ_self 0)
end
