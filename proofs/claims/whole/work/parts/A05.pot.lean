/-! ===== lengths from a state and lengths to a goal: pure ===== -/
def TP (D : tD) (g : gS) (tm : Bool) (T : Nat → Int) : Prop := (∀ k, k < gN g → (T k = 0 ↔ dGoal D (gX g k) = true)) ∧ (∀ k, k < gN g → -1 ≤ T k) ∧ (∀ k e, k < gN g → eIn g k e → 0 ≤ T (tg g e) → 0 ≤ T k ∧ T k ≤ T (tg g e) + wE D tm g e) ∧ ∀ k, k < gN g → 0 < T k → ∃ e, eIn g k e ∧ 0 ≤ T (tg g e) ∧ T k = T (tg g e) + wE D tm g e
/-- on a shortest way from s -/
def onW (T L : Nat → Int) (s k : Nat) : Prop := ¬ L k = 2147483647 ∧ 0 ≤ T k ∧ L k + T k = T s
def MG (D : tD) (g : gS) (tm : Bool) (T : Nat → Int) (s : Nat) (L : Nat → Int) : Prop := (∀ k, k < gN g → ¬ L k = 2147483647 → 0 ≤ L k ∧ L k ≤ 811010000) ∧ (∀ k e, k < gN g → ¬ L k = 2147483647 → eIn g k e → ¬ L (tg g e) = 2147483647 ∧ L (tg g e) ≤ L k + wE D tm g e) ∧ (∀ k, k < gN g → ¬ L k = 2147483647 → 0 ≤ T k → 0 ≤ T s ∧ T s ≤ L k + T k) ∧ L s = 0
section
variable {D : tD} {g : gS} {tm : Bool} {s i : Nat} {T : Nat → Int} {I : Nat → Nat → Int} {O H : Nat → Nat}
theorem DJ.set {y : Nat} (h : DJ D g tm s I i 0 O H) (hN : gN g ≤ 2000) (hy : y < gN g) : I 1332 y = 2147483647 ∨ ∃ j, j < i ∧ O j = y := by
  rcases h.2.2.2.2.2.2.1 y (by omega) with ⟨z, -⟩ | ⟨j, hj, -, e⟩ | ⟨a, ha, -⟩
  · exact Or.inl z
  · exact Or.inr ⟨j, hj, e⟩
  · omega
theorem pot_low (hD : dOk D) (hT : TP D g tm T) (h : DJ D g tm s I i 0 O H) : ∀ m j, j ≤ m → j < i → 0 ≤ T (O j) → 0 ≤ T s ∧ T s ≤ I 1332 (O j) + T (O j) := by
  obtain ⟨-, -, hO, -, -, -, -, hs1, -, h0, hsN, hpr⟩ := h
  have base : ∀ j, O j = s → 0 ≤ T (O j) → 0 ≤ T s ∧ T s ≤ I 1332 (O j) + T (O j) := fun j e hT0 => by
    rw [e] at hT0 ⊢
    rw [h0]
    exact ⟨hT0, by omega⟩
  intro m
  induction m with
  | zero =>
    intro j hj hji hT0
    by_cases c : O j = s
    · exact base j c hT0
    · obtain ⟨j', hj', e, z1, z2, z3⟩ := hpr (O j) c (Or.inl ⟨j, hji, by omega, rfl⟩)
      have hw := wE_in hD tm g e
      have := hs1 j j' (by omega) hj'
      omega
  | succ m ih =>
    intro j hj hji hT0
    by_cases c : O j = s
    · exact base j c hT0
    · obtain ⟨j', hj', e, z1, z2, z3⟩ := hpr (O j) c (Or.inl ⟨j, hji, by omega, rfl⟩)
      have hw := wE_in hD tm g e
      have hlt : j' < j := by
        rcases Nat.lt_or_ge j' j with q | q
        · exact q
        · have := hs1 j j' q hj'
          omega
      rw [← z2] at hT0
      have hu := hT.2.2.1 (O j') e (hO j' hj').2.1 z1 hT0
      have := ih j' (by omega) hj' hu.1
      rw [z2] at hu
      omega
theorem pot_goal (hD : dOk D) (hN : gN g ≤ 2000) (hTg : tgOk g) (hT : TP D g tm T) (h : DJ D g tm s I i 0 O H) (hX : RX D g tm I i O) : ∀ (v j : Nat), j < i → T (O j) = (v : Int) → ∃ j', j' < i ∧ dGoal D (gX g (O j')) = true ∧ I 1332 (O j') ≤ I 1332 (O j) + v := by
  have hr := h.room
  intro v
  induction v using Nat.strongRecOn with
  | ind v ih =>
    intro j hj hv
    have hOj := h.2.2.1 j hj
    by_cases c : v = 0
    · subst c
      exact ⟨j, hj, (hT.1 _ hOj.2.1).mp hv, by omega⟩
    · obtain ⟨e, e1, e2, e3⟩ := hT.2.2.2 _ hOj.2.1 (by omega)
      have hw := wE_in hD tm g e
      have hx := hX j hj e e1
      have hz := hTg _ hOj.2.1 e e1.1 e1.2
      rcases h.set hN hz with z | ⟨j2, hj2, z⟩
      · have z : I 1332 (tg g e) = 2147483647 := z
        omega
      · have z : O j2 = tg g e := z
        obtain ⟨j', y1, y2, y3⟩ := ih (T (tg g e)).toNat (by omega) j2 hj2 (by rw [z]; omega)
        rw [z] at y3
        exact ⟨j', y1, y2, by omega⟩
theorem pot_least (hD : dOk D) (hN : gN g ≤ 2000) (hTg : tgOk g) (hT : TP D g tm T) (h : DJ D g tm s I i 0 O H) (hX : RX D g tm I i O) (hL : LI D g I i O) : I 1283 0 = T s := by
  have hsN := h.2.2.2.2.2.2.2.2.2.2.1
  have h0 := h.2.2.2.2.2.2.2.2.2.1
  have hO := h.2.2.1
  have low := pot_low hD hT h
  have hTs := hT.2.1 s hsN
  rcases hL with ⟨e, hno⟩ | ⟨j, hj, hg, e, hfirst⟩
  · rw [e]
    rcases h.set hN hsN with z | ⟨j, hj, z⟩
    · rw [h0] at z; exact absurd z (by decide)
    · by_cases c : 0 ≤ T s
      · obtain ⟨j', y1, y2, -⟩ := pot_goal hD hN hTg hT h hX (T s).toNat j hj (by rw [z]; omega)
        rw [hno j' y1] at y2
        cases y2
      · omega
  · rw [e]
    have hz := (hT.1 _ (hO j hj).2.1).mpr hg
    have := low j j (Nat.le_refl _) hj (by omega)
    rcases h.set hN hsN with z | ⟨j2, hj2, z⟩
    · rw [h0] at z; exact absurd z (by decide)
    · obtain ⟨j', y1, y2, y3⟩ := pot_goal hD hN hTg hT h hX (T s).toNat j2 hj2 (by rw [z]; omega)
      have hjj : j ≤ j' := by
        rcases Nat.lt_or_ge j' j with q | q
        · rw [hfirst j' q] at y2; cases y2
        · exact q
      have := h.2.2.2.2.2.2.2.1 j j' hjj y1
      rw [z, h0] at y3
      omega
theorem pot_MG (hD : dOk D) (hN : gN g ≤ 2000) (hTg : tgOk g) (hT : TP D g tm T) (h : DJ D g tm s I i 0 O H) (hX : RX D g tm I i O) : MG D g tm T s (I 1332) := by
  have hr := h.room
  have h0 := h.2.2.2.2.2.2.2.2.2.1
  have hO := h.2.2.1
  refine ⟨fun k hk hf => ?_, fun k e hk hf he => ?_, fun k hk hf hTk => ?_, h0⟩
  · rcases h.set hN hk with z | ⟨j, hj, z⟩
    · exact absurd z hf
    · have := hO j hj
      rw [z] at this
      omega
  · rcases h.set hN hk with z | ⟨j, hj, z⟩
    · exact absurd z hf
    · have hj1 := hO j hj
      have hx := hX j hj e (by rw [z]; exact he)
      have hw := wE_in hD tm g e
      rw [z] at hx hj1
      exact ⟨by omega, hx⟩
  · rcases h.set hN hk with z | ⟨j, hj, z⟩
    · exact absurd z hf
    · have := pot_low hD hT h j j (Nat.le_refl _) hj (by rw [z]; exact hTk)
      rw [z] at this
      exact this
theorem on_step {L : Nat → Int} {k e : Nat} (hTg : tgOk g) (hM : MG D g tm T s L) (hk : k < gN g) (hon : onW T L s k) (he : eIn g k e) : (0 ≤ T (tg g e) ∧ T (tg g e) + wE D tm g e = T k) ↔ (onW T L s (tg g e) ∧ L (tg g e) = L k + wE D tm g e) := by
  have hz : tg g e < gN g := hTg k hk e he.1 he.2
  have h1 := hM.2.1 k e hk hon.1 he
  constructor
  · rintro ⟨a, b⟩
    have h2 := hM.2.2.1 _ hz h1.1 a
    have := hon.2.2
    exact ⟨⟨h1.1, a, by omega⟩, by omega⟩
  · rintro ⟨⟨a, b, c⟩, e2⟩
    have := hon.2.2
    exact ⟨b, by omega⟩
theorem on_back {L : Nat → Int} {k e : Nat} (hT : TP D g tm T) (hM : MG D g tm T s L) (hk : k < gN g) (hf : ¬ L k = 2147483647) (he : eIn g k e) (hon : onW T L s (tg g e)) (hL : L (tg g e) = L k + wE D tm g e) : onW T L s k := by
  have h1 := hT.2.2.1 k e hk he hon.2.1
  have h2 := hM.2.2.1 k hk hf h1.1
  have := hon.2.2
  exact ⟨hf, h1.1, by omega⟩
end
/-! how many ways -/
def wadd (a c : Int) : Int := if 1000000000 < a + c then 1000000000 else a + c
def wSum (D : tD) (g : gS) (tm : Bool) (T wc : Nat → Int) (k : Nat) (l : List Nat) (a : Int) : Int := l.foldl (fun a e => if 0 ≤ T (tg g e) ∧ T (tg g e) + wE D tm g e = T k then wadd a (wc (tg g e)) else a) a
def wThr (D : tD) (g : gS) (tm : Bool) (L wc : Nat → Int) (k : Nat) (l : List Nat) (a : Int) : Int := l.foldl (fun a e => if 0 < wc (tg g e) ∧ L (tg g e) = L k + wE D tm g e then wadd a (wc (tg g e)) else a) a
def eL0 (g : gS) (k : Nat) : List Nat := List.range' (gF g k) (gF g (k + 1) - gF g k)
def WC (D : tD) (g : gS) (tm : Bool) (T : Nat → Int) (s : Nat) (L wc : Nat → Int) (k : Nat) : Prop := (onW T L s k → 1 ≤ wc k ∧ wc k ≤ 1000000000 ∧ (T k = 0 → wc k = 1) ∧ (0 < T k → wc k = wSum D g tm T wc k (eL0 g k) 0)) ∧ (¬ onW T L s k → wc k = 0)
theorem wadd_in {a c : Int} (h1 : 0 ≤ a) (h2 : 0 ≤ c) : a ≤ 1000000000 → a ≤ wadd a c ∧ wadd a c ≤ 1000000000 := by
  intro h3
  unfold wadd
  split <;> omega
theorem mem_eL0 {g : gS} {k e : Nat} : e ∈ eL0 g k ↔ eIn g k e := by
  unfold eL0 eIn
  rw [List.mem_range'_1]
  omega
theorem wSum_in {D : tD} {g : gS} {tm : Bool} {T wc : Nat → Int} {k : Nat} : ∀ (l : List Nat) (a : Int), (∀ e, e ∈ l → 0 ≤ T (tg g e) → 0 ≤ wc (tg g e)) → 0 ≤ a → a ≤ 1000000000 → a ≤ wSum D g tm T wc k l a ∧ wSum D g tm T wc k l a ≤ 1000000000 := by
  intro l
  induction l with
  | nil => intro a _ h1 h2; exact ⟨Int.le_refl _, h2⟩
  | cons x l ih =>
    intro a h h1 h2
    have h' : ∀ e, e ∈ l → 0 ≤ T (tg g e) → 0 ≤ wc (tg g e) := fun e he => h e (List.mem_cons_of_mem _ he)
    show a ≤ wSum D g tm T wc k l (if 0 ≤ T (tg g x) ∧ T (tg g x) + wE D tm g x = T k then wadd a (wc (tg g x)) else a) ∧ wSum D g tm T wc k l (if 0 ≤ T (tg g x) ∧ T (tg g x) + wE D tm g x = T k then wadd a (wc (tg g x)) else a) ≤ 1000000000
    by_cases c : 0 ≤ T (tg g x) ∧ T (tg g x) + wE D tm g x = T k
    · rw [if_pos c]
      have := wadd_in h1 (h x List.mem_cons_self c.1) h2
      have := ih (wadd a (wc (tg g x))) h' (by omega) this.2
      omega
    · rw [if_neg c]
      exact ih a h' h1 h2
theorem wSum_pos {D : tD} {g : gS} {tm : Bool} {T wc : Nat → Int} {k e : Nat} (h1 : 0 ≤ T (tg g e) ∧ T (tg g e) + wE D tm g e = T k) (h2 : 1 ≤ wc (tg g e)) : ∀ (l : List Nat) (a : Int), (∀ e, e ∈ l → 0 ≤ T (tg g e) → 0 ≤ wc (tg g e)) → e ∈ l → 0 ≤ a → a ≤ 1000000000 → 1 ≤ wSum D g tm T wc k l a := by
  intro l
  induction l with
  | nil => intro a _ hm; cases hm
  | cons x l ih =>
    intro a h hm a1 a2
    have h' : ∀ e, e ∈ l → 0 ≤ T (tg g e) → 0 ≤ wc (tg g e) := fun e he => h e (List.mem_cons_of_mem _ he)
    show 1 ≤ wSum D g tm T wc k l (if 0 ≤ T (tg g x) ∧ T (tg g x) + wE D tm g x = T k then wadd a (wc (tg g x)) else a)
    by_cases q : x = e
    · subst q
      rw [if_pos h1]
      have hb := wadd_in a1 (by omega : 0 ≤ wc (tg g x)) a2
      have h3 : 1 ≤ wadd a (wc (tg g x)) := by unfold wadd; split <;> omega
      have := wSum_in (D := D) (tm := tm) (k := k) l (wadd a (wc (tg g x))) h' (by omega) hb.2
      omega
    · have hm : e ∈ l := by
        rcases List.mem_cons.mp hm with z | z
        · exact absurd z.symm q
        · exact z
      by_cases c : 0 ≤ T (tg g x) ∧ T (tg g x) + wE D tm g x = T k
      · rw [if_pos c]
        have hb := wadd_in a1 (h x List.mem_cons_self c.1) a2
        exact ih _ h' hm (by omega) hb.2
      · rw [if_neg c]
        exact ih a h' hm a1 a2
theorem wSum_cg {D : tD} {g : gS} {tm : Bool} {T wc wc' : Nat → Int} {k : Nat} : ∀ (l : List Nat) (a : Int), (∀ e, e ∈ l → 0 ≤ T (tg g e) → T (tg g e) + wE D tm g e = T k → wc (tg g e) = wc' (tg g e)) → wSum D g tm T wc k l a = wSum D g tm T wc' k l a := by
  intro l
  induction l with
  | nil => intro a _; rfl
  | cons x l ih =>
    intro a h
    show wSum D g tm T wc k l (if 0 ≤ T (tg g x) ∧ T (tg g x) + wE D tm g x = T k then wadd a (wc (tg g x)) else a) = wSum D g tm T wc' k l (if 0 ≤ T (tg g x) ∧ T (tg g x) + wE D tm g x = T k then wadd a (wc' (tg g x)) else a)
    have h2 : (if 0 ≤ T (tg g x) ∧ T (tg g x) + wE D tm g x = T k then wadd a (wc (tg g x)) else a) = (if 0 ≤ T (tg g x) ∧ T (tg g x) + wE D tm g x = T k then wadd a (wc' (tg g x)) else a) := by
      by_cases c : 0 ≤ T (tg g x) ∧ T (tg g x) + wE D tm g x = T k
      · rw [if_pos c, if_pos c, h x (List.mem_cons_self) c.1 c.2]
      · rw [if_neg c, if_neg c]
    rw [h2]
    exact ih _ (fun e he => h e (List.mem_cons_of_mem _ he))
theorem wThr_eq {D : tD} {g : gS} {tm : Bool} {T L wc : Nat → Int} {k : Nat} : ∀ (l : List Nat) (a : Int), (∀ e, e ∈ l → ((0 < wc (tg g e) ∧ L (tg g e) = L k + wE D tm g e) ↔ (0 ≤ T (tg g e) ∧ T (tg g e) + wE D tm g e = T k))) → wThr D g tm L wc k l a = wSum D g tm T wc k l a := by
  intro l
  induction l with
  | nil => intro a _; rfl
  | cons x l ih =>
    intro a h
    show wThr D g tm L wc k l (if 0 < wc (tg g x) ∧ L (tg g x) = L k + wE D tm g x then wadd a (wc (tg g x)) else a) = wSum D g tm T wc k l (if 0 ≤ T (tg g x) ∧ T (tg g x) + wE D tm g x = T k then wadd a (wc (tg g x)) else a)
    rw [ih _ (fun e he => h e (List.mem_cons_of_mem _ he))]
    congr 1
    have := h x List.mem_cons_self
    by_cases c : 0 ≤ T (tg g x) ∧ T (tg g x) + wE D tm g x = T k
    · rw [if_pos c, if_pos (this.mpr c)]
    · rw [if_neg c, if_neg (fun z => c (this.mp z))]
theorem wThr_0 {D : tD} {g : gS} {tm : Bool} {L wc : Nat → Int} {k : Nat} : ∀ (l : List Nat) (a : Int), (∀ e, e ∈ l → ¬ (0 < wc (tg g e) ∧ L (tg g e) = L k + wE D tm g e)) → wThr D g tm L wc k l a = a := by
  intro l
  induction l with
  | nil => intro a _; rfl
  | cons x l ih =>
    intro a h
    show wThr D g tm L wc k l (if 0 < wc (tg g x) ∧ L (tg g x) = L k + wE D tm g x then wadd a (wc (tg g x)) else a) = a
    rw [if_neg (h x List.mem_cons_self)]
    exact ih a (fun e he => h e (List.mem_cons_of_mem _ he))
