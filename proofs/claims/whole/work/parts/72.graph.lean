/-! ===== the graph of states, as both sides build it ===== -/
/-- states: how many, which, how far; crossings: how many, which (boat, shore, set, state); the first crossing of each state; spent -/
abbrev gS : Type := (Nat × (Nat → Nat) × (Nat → Nat)) × (Nat × (Nat → Nat × Nat × Nat × Nat)) × (Nat → Nat) × Bool
def gN (g : gS) : Nat := g.1.1
def gX (g : gS) : Nat → Nat := g.1.2.1
def gDp (g : gS) : Nat → Nat := g.1.2.2
def gM (g : gS) : Nat := g.2.1.1
def gE (g : gS) : Nat → Nat × Nat × Nat × Nat := g.2.1.2
def gF (g : gS) : Nat → Nat := g.2.2.1
def gSp (g : gS) : Bool := g.2.2.2
def upN {α : Type} (f : Nat → α) (k : Nat) (v : α) : Nat → α := fun i => if i = k then v else f i
def fnd (X : Nat → Nat) (n s : Nat) : Option Nat := match n with
  | 0 => none
  | k + 1 => match fnd X k s with
    | some i => some i
    | none => if X k = s then some k else none
def g_sp (g : gS) : gS := (g.1, g.2.1, g.2.2.1, true)
def g_x (g : gS) (s dp : Nat) : gS := ((gN g + 1, upN (gX g) (gN g) s, upN (gDp g) (gN g) dp), g.2)
def g_e (g : gS) (e : Nat × Nat × Nat × Nat) : gS := (g.1, (gM g + 1, upN (gE g) (gM g) e), g.2.2)
def g_f (g : gS) (k : Nat) : gS := (g.1, g.2.1, upN (gF g) k (gM g), gSp g)
def addE (D : tD) (g : gS) (k b p S : Nat) : gS := if gSp g = true then g else match fnd (gX g) (gN g) (dAfter D (gX g k) b p S) with
  | some j => if gM g = 40000 then g_sp g else g_e g (b, p, S, j)
  | none => if gN g = 2000 ∨ gM g = 40000 then g_sp g else g_e (g_x g (dAfter D (gX g k) b p S) (gDp g k + 1)) (b, p, S, gN g)
/-- a crossing that is not barred; act: the laws that bar; ho, lo: what boat 0 bears -/
def okE (D : tD) (act ho lo s b p S : Nat) : Bool := dFits D S (if b = 0 then ho else dHo D b) (if b = 0 then lo else dLo D b) && decide ((dFlow D (lberth s b) p = true ∧ (dLamp D = -1 ∨ llamp s = lberth s b)) ∧ ndiff S (lash s (lberth s b) (dT D)) = 0 ∧ dWaters D s b S &&& act = 0 ∧ dShores D (dAfter D s b p S) &&& act = 0)
def exS (D : tD) (act ho lo k s b p : Nat) (l : List Nat) (g : gS) : gS := l.foldl (fun g S => if okE D act ho lo s b p S = true then addE D g k b p S else g) g
def exP (D : tD) (act ho lo k s b : Nat) (l : List Nat) (g : gS) : gS := l.foldl (fun g p => exS D act ho lo k s b p (List.range' 1 (dAll D)) g) g
def exB (D : tD) (act ho lo k s : Nat) (l : List Nat) (g : gS) : gS := l.foldl (fun g b => exP D act ho lo k s b (List.range' 0 (dS D)) g) g
/-- all crossings from the k-th state -/
def exK (D : tD) (act ho lo k : Nat) (g : gS) : gS := if dShores D (dStart D) &&& act = 0 then exB D act ho lo k (gX g k) (List.range' 0 (dB D)) g else g
def gRun (D : tD) (act ho lo : Nat) (f k : Nat) (g : gS) : gS := match f with
  | 0 => g
  | f + 1 => if k < gN g ∧ gSp g = false then gRun D act ho lo f (k + 1) (g_f (exK D act ho lo k g) (k + 1)) else g
def g0 (D : tD) : gS := ((1, (fun _ => dStart D), (fun _ => 0)), (0, (fun _ => (0, 0, 0, 0))), (fun _ => 0), false)
/-- the whole graph -/
def gAll (D : tD) (act ho lo : Nat) : gS := gRun D act ho lo 2001 0 (g0 D)
theorem fnd_some {X : Nat → Nat} {n s i : Nat} (h : fnd X n s = some i) : i < n ∧ X i = s := by
  induction n with
  | zero => cases h
  | succ k ih =>
    unfold fnd at h
    cases hf : fnd X k s with
    | some j =>
      rw [hf] at h
      cases h
      have := ih hf
      exact ⟨by omega, this.2⟩
    | none =>
      rw [hf] at h
      dsimp only at h
      split at h
      · rename_i hx
        cases h
        exact ⟨by omega, hx⟩
      · cases h
theorem fnd_none {X : Nat → Nat} {n s : Nat} (h : fnd X n s = none) : ∀ i, i < n → ¬ X i = s := by
  induction n with
  | zero => intro i hi; omega
  | succ k ih =>
    unfold fnd at h
    cases hf : fnd X k s with
    | some j => rw [hf] at h; cases h
    | none =>
      rw [hf] at h
      dsimp only at h
      split at h
      · cases h
      · rename_i hx
        intro i hi
        by_cases e : i = k
        · rw [e]; exact hx
        · exact ih hf i (by omega)
theorem fnd_of {X : Nat → Nat} {n s i : Nat} (hd : ∀ a b, a < n → b < n → X a = X b → a = b) (hi : i < n) (h : X i = s) : fnd X n s = some i := by
  cases hf : fnd X n s with
  | none => exact absurd h (fnd_none hf i hi)
  | some j =>
    have := fnd_some hf
    rw [hd j i this.1 hi (by omega)]
theorem addE_sp {D : tD} {g : gS} {k b p S : Nat} (h : gSp g = true) : addE D g k b p S = g := by
  unfold addE
  rw [if_pos h]
theorem exS_sp {D : tD} {act ho lo k s b p : Nat} {g : gS} (h : gSp g = true) : ∀ l : List Nat, exS D act ho lo k s b p l g = g := by
  intro l
  induction l with
  | nil => rfl
  | cons a l ih =>
    show exS D act ho lo k s b p l (if okE D act ho lo s b p a = true then addE D g k b p a else g) = g
    rw [addE_sp h]
    simp only [ite_self]
    exact ih
theorem exP_sp {D : tD} {act ho lo k s b : Nat} {g : gS} (h : gSp g = true) : ∀ l : List Nat, exP D act ho lo k s b l g = g := by
  intro l
  induction l with
  | nil => rfl
  | cons a l ih =>
    show exP D act ho lo k s b l (exS D act ho lo k s b a (List.range' 1 (dAll D)) g) = g
    rw [exS_sp h]
    exact ih
theorem exB_sp {D : tD} {act ho lo k s : Nat} {g : gS} (h : gSp g = true) : ∀ l : List Nat, exB D act ho lo k s l g = g := by
  intro l
  induction l with
  | nil => rfl
  | cons a l ih =>
    show exB D act ho lo k s l (exP D act ho lo k s a (List.range' 0 (dS D)) g) = g
    rw [exP_sp h]
    exact ih
theorem exS_no {D : tD} {act ho lo k s b p : Nat} : ∀ (l : List Nat) (g : gS), (∀ S ∈ l, okE D act ho lo s b p S = false) → exS D act ho lo k s b p l g = g := by
  intro l
  induction l with
  | nil => intro g _; rfl
  | cons a l ih =>
    intro g h
    show exS D act ho lo k s b p l (if okE D act ho lo s b p a = true then addE D g k b p a else g) = g
    rw [h a List.mem_cons_self, if_neg (by decide)]
    exact ih g (fun S hS => h S (List.mem_cons_of_mem _ hS))
theorem exP_no {D : tD} {act ho lo k s b : Nat} : ∀ (l : List Nat) (g : gS), (∀ p ∈ l, ∀ S, okE D act ho lo s b p S = false) → exP D act ho lo k s b l g = g := by
  intro l
  induction l with
  | nil => intro g _; rfl
  | cons a l ih =>
    intro g h
    show exP D act ho lo k s b l (exS D act ho lo k s b a (List.range' 1 (dAll D)) g) = g
    rw [exS_no _ _ (fun S _ => h a List.mem_cons_self S)]
    exact ih g (fun p hp => h p (List.mem_cons_of_mem _ hp))
/-- what a state of the graph meets -/
def stOk (D : tD) (s : Nat) : Prop := s < 4194304 ∧ (∀ i, dT D ≤ i → i < 8 → lshore s i = 0) ∧ (∀ b, b < dB D → lberth s b < dS D)
def gOk (D : tD) (act : Nat) (g : gS) : Prop := (gN g ≤ 2000 ∧ 1 ≤ gN g) ∧ gM g ≤ 40000 ∧ (∀ k, k < gN g → stOk D (gX g k) ∧ gDp g k ≤ k) ∧ (dShores D (dStart D) &&& act = 0 → ∀ k, k < gN g → dShores D (gX g k) &&& act = 0) ∧ (∀ a b, a < gN g → b < gN g → gX g a = gX g b → a = b) ∧
  ∀ e, e < gM g → (gE g e).1 < dB D ∧ (gE g e).2.1 < dS D ∧ (gE g e).2.2.1 ≤ dAll D ∧ (gE g e).2.2.2 < gN g
theorem stOk_af {D : tD} {s b p S : Nat} (hD : dOk D) (h : stOk D s) (hb : b < dB D) (hp : p < dS D) (hS : S ≤ dAll D) : stOk D (dAfter D s b p S) := by
  have hB := hD.2.2.1
  have hS4 := hD.1
  have hA := dAll_lt hD
  refine ⟨dAfter_lt h.1 (by omega) (by omega) (by omega), fun i h1 h2 => ?_, fun c hc => ?_⟩
  · rw [af_shore (by omega) (by omega) (by omega) h2]
    have : S.testBit i = false := Nat.testBit_lt_two_pow (Nat.lt_of_lt_of_le (lt_all hS) (Nat.pow_le_pow_right (n := 2) (by omega) h1))
    rw [this, if_neg (by decide)]
    exact h.2.1 i h1 h2
  · rw [af_berth (by omega) (by omega) (by omega) (by omega)]
    split
    · exact hp
    · exact h.2.2 c hc
theorem okE_s {D : tD} {act ho lo s b p S : Nat} (h : okE D act ho lo s b p S = true) : dFits D S (if b = 0 then ho else dHo D b) (if b = 0 then lo else dLo D b) = true ∧ dFlow D (lberth s b) p = true ∧ (dLamp D = -1 ∨ llamp s = lberth s b) ∧ ndiff S (lash s (lberth s b) (dT D)) = 0 ∧ dWaters D s b S &&& act = 0 ∧ dShores D (dAfter D s b p S) &&& act = 0 := by
  unfold okE at h
  rw [Bool.and_eq_true, decide_eq_true_eq] at h
  exact ⟨h.1, h.2.1.1, h.2.1.2, h.2.2⟩
/-- crossings keep the graph well -/
theorem addE_ok {D : tD} {act ho lo k b p S : Nat} {g : gS} (hD : dOk D) (h : gOk D act g) (hk : k < gN g) (hb : b < dB D) (hp : p < dS D) (hS : S ≤ dAll D) (he : okE D act ho lo (gX g k) b p S = true) :
    gOk D act (addE D g k b p S) ∧ gN g ≤ gN (addE D g k b p S) ∧ (∀ i, i < gN g → gX (addE D g k b p S) i = gX g i ∧ gDp (addE D g k b p S) i = gDp g i) ∧ gF (addE D g k b p S) = gF g := by
  obtain ⟨h1, h2, h3, h4, h5, h6⟩ := h
  have hun := (okE_s he).2.2.2.2.2
  unfold addE
  by_cases hs : gSp g = true
  · rw [if_pos hs]
    exact ⟨⟨h1, h2, h3, h4, h5, h6⟩, Nat.le_refl _, fun _ _ => ⟨rfl, rfl⟩, rfl⟩
  rw [if_neg hs]
  cases hf : fnd (gX g) (gN g) (dAfter D (gX g k) b p S) with
  | some j =>
    have hj := fnd_some hf
    dsimp only
    split
    · exact ⟨⟨h1, h2, h3, h4, h5, h6⟩, Nat.le_refl _, fun _ _ => ⟨rfl, rfl⟩, rfl⟩
    · rename_i hm
      refine ⟨⟨h1, ?_, h3, h4, h5, fun e he2 => ?_⟩, Nat.le_refl _, fun _ _ => ⟨rfl, rfl⟩, rfl⟩
      · show gM g + 1 ≤ 40000
        omega
      · have he2 : e < gM g + 1 := he2
        show (upN (gE g) (gM g) (b, p, S, j) e).1 < dB D ∧ (upN (gE g) (gM g) (b, p, S, j) e).2.1 < dS D ∧ (upN (gE g) (gM g) (b, p, S, j) e).2.2.1 ≤ dAll D ∧ (upN (gE g) (gM g) (b, p, S, j) e).2.2.2 < gN g
        unfold upN
        by_cases q : e = gM g
        · rw [if_pos q]; exact ⟨hb, hp, hS, hj.1⟩
        · rw [if_neg q]; exact h6 e (by omega)
  | none =>
    have hno := fnd_none hf
    dsimp only
    split
    · exact ⟨⟨h1, h2, h3, h4, h5, h6⟩, Nat.le_refl _, fun _ _ => ⟨rfl, rfl⟩, rfl⟩
    · rename_i hm
      have kn : ∀ i, i < gN g → upN (gX g) (gN g) (dAfter D (gX g k) b p S) i = gX g i := fun i hi => by unfold upN; rw [if_neg (by omega)]
      have kd : ∀ i, i < gN g → upN (gDp g) (gN g) (gDp g k + 1) i = gDp g i := fun i hi => by unfold upN; rw [if_neg (by omega)]
      have kx : upN (gX g) (gN g) (dAfter D (gX g k) b p S) (gN g) = dAfter D (gX g k) b p S := by unfold upN; rw [if_pos rfl]
      have ke : upN (gDp g) (gN g) (gDp g k + 1) (gN g) = gDp g k + 1 := by unfold upN; rw [if_pos rfl]
      refine ⟨⟨⟨?_, ?_⟩, ?_, fun i hi => ?_, fun hz i hi => ?_, fun i j hi hj e => ?_, fun e he2 => ?_⟩, ?_, fun i hi => ⟨kn i hi, kd i hi⟩, rfl⟩
      · show gN g + 1 ≤ 2000
        omega
      · show 1 ≤ gN g + 1
        omega
      · show gM g + 1 ≤ 40000
        omega
      · have hi : i < gN g + 1 := hi
        show stOk D (upN (gX g) (gN g) (dAfter D (gX g k) b p S) i) ∧ upN (gDp g) (gN g) (gDp g k + 1) i ≤ i
        by_cases q : i = gN g
        · rw [q, kx, ke]
          have := (h3 k hk).2
          exact ⟨stOk_af hD (h3 k hk).1 hb hp hS, by omega⟩
        · rw [kn i (by omega), kd i (by omega)]
          exact h3 i (by omega)
      · have hi : i < gN g + 1 := hi
        show dShores D (upN (gX g) (gN g) (dAfter D (gX g k) b p S) i) &&& act = 0
        by_cases q : i = gN g
        · rw [q, kx]; exact hun
        · rw [kn i (by omega)]; exact h4 hz i (by omega)
      · have hi : i < gN g + 1 := hi
        have hj : j < gN g + 1 := hj
        have e : upN (gX g) (gN g) (dAfter D (gX g k) b p S) i = upN (gX g) (gN g) (dAfter D (gX g k) b p S) j := e
        by_cases q : i = gN g
        · by_cases q2 : j = gN g
          · omega
          · rw [q, kx, kn j (by omega)] at e
            exact absurd e.symm (hno j (by omega))
        · by_cases q2 : j = gN g
          · rw [q2, kx, kn i (by omega)] at e
            exact absurd e (hno i (by omega))
          · rw [kn i (by omega), kn j (by omega)] at e
            exact h5 i j (by omega) (by omega) e
      · have he2 : e < gM g + 1 := he2
        show (upN (gE g) (gM g) (b, p, S, gN g) e).1 < dB D ∧ (upN (gE g) (gM g) (b, p, S, gN g) e).2.1 < dS D ∧ (upN (gE g) (gM g) (b, p, S, gN g) e).2.2.1 ≤ dAll D ∧ (upN (gE g) (gM g) (b, p, S, gN g) e).2.2.2 < gN g + 1
        unfold upN
        by_cases q : e = gM g
        · rw [if_pos q]; exact ⟨hb, hp, hS, by show gN g < gN g + 1; omega⟩
        · rw [if_neg q]
          have := h6 e (by omega)
          exact ⟨this.1, this.2.1, this.2.2.1, by omega⟩
      · show gN g ≤ gN g + 1
        omega
