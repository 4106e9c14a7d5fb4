/-! ===== a heap: pure ===== -/
/-- i has H i, but for the hole p; x waits -/
def HO (n p x : Nat) (H : Nat → Nat) (hp sp : Nat → Int) : Prop := ∀ i, i < n → ¬ i = p → hp i = (H i : Int) ∧ H i < 2000 ∧ ¬ H i = x ∧ sp (H i) = (i : Int)
def OU (n p x : Nat) (H : Nat → Nat) (L : Nat → Int) : Prop := ∀ i, 0 < i → i < n → ¬ i = p → (¬ (i - 1) / 2 = p → L (H ((i - 1) / 2)) ≤ L (H i)) ∧ ((i - 1) / 2 = p → L x ≤ L (H i) ∧ (0 < p → L (H ((p - 1) / 2)) ≤ L (H i)))
def OV (n p x : Nat) (H : Nat → Nat) (L : Nat → Int) : Prop := (∀ i, 0 < i → i < n → ¬ i = p → (¬ (i - 1) / 2 = p → L (H ((i - 1) / 2)) ≤ L (H i)) ∧ ((i - 1) / 2 = p → 0 < p → L (H ((p - 1) / 2)) ≤ L (H i))) ∧ (0 < p → L (H ((p - 1) / 2)) ≤ L x)
def HP (n : Nat) (H : Nat → Nat) (hp sp L : Nat → Int) : Prop := (∀ i, i < n → hp i = (H i : Int) ∧ H i < 2000 ∧ sp (H i) = (i : Int)) ∧ ∀ i, 0 < i → i < n → L (H ((i - 1) / 2)) ≤ L (H i)
def hM (n p : Nat) (H : Nat → Nat) (y : Nat) : Prop := ∃ i, i < n ∧ ¬ i = p ∧ H i = y
theorem zrow_at (f : Nat → Int) (k : Nat) (v : Int) : z_row f k v k = v := if_pos rfl
theorem zrow_ne {f : Nat → Int} {k j : Nat} {v : Int} (h : ¬ j = k) : z_row f k v j = f j := if_neg h
theorem HO_mv {n p a x : Nat} {H : Nat → Nat} {hp sp : Nat → Int} (hpn : p < n) (han : a < n) (hap : ¬ a = p) (h : HO n p x H hp sp) : HO n a x (upN H p (H a)) (z_row hp p (H a : Int)) (z_row sp (H a) (p : Int)) := by
  intro i hi hia
  have ha := h a han hap
  by_cases c : i = p
  · subst c
    rw [upN_at, zrow_at, zrow_at]
    exact ⟨rfl, ha.2.1, ha.2.2.1, rfl⟩
  · have hi' := h i hi c
    rw [upN_ne c, zrow_ne c, zrow_ne (fun e => by rw [e, ha.2.2.2] at hi'; have := hi'.2.2.2; omega)]
    exact hi'
theorem hM_mv {n p a : Nat} {H : Nat → Nat} (hpn : p < n) (han : a < n) (hap : ¬ a = p) (y : Nat) : hM n a (upN H p (H a)) y ↔ hM n p H y := by
  constructor
  · rintro ⟨i, hi, hia, e⟩
    by_cases c : i = p
    · subst c
      rw [upN_at] at e
      exact ⟨a, han, hap, e⟩
    · rw [upN_ne c] at e
      exact ⟨i, hi, c, e⟩
  · rintro ⟨i, hi, hip, e⟩
    by_cases c : i = a
    · subst c
      exact ⟨p, hpn, fun z => hap z.symm, by rw [upN_at]; exact e⟩
    · exact ⟨i, hi, c, by rw [upN_ne hip]; exact e⟩
theorem OU_mv {n p x : Nat} {H : Nat → Nat} {L : Nat → Int} (hp0 : 0 < p) (hpn : p < n) (h : OU n p x H L) (c : L x < L (H ((p - 1) / 2))) : OU n ((p - 1) / 2) x (upN H p (H ((p - 1) / 2))) L := by
  intro i h0 hi hia
  refine ⟨fun q => ?_, fun q => ?_⟩
  · by_cases e : i = p
    · subst e; exact absurd rfl q
    · have h1 := h i h0 hi e
      rw [upN_ne (k := p) (i := i) e]
      by_cases e2 : (i - 1) / 2 = p
      · rw [e2, upN_at]
        exact (h1.2 e2).2 hp0
      · rw [upN_ne e2]
        exact h1.1 e2
  · have hpa : ¬ (p - 1) / 2 = p := by omega
    have key : L (H ((p - 1) / 2)) ≤ L (upN H p (H ((p - 1) / 2)) i) := by
      by_cases e : i = p
      · rw [e, upN_at]; exact Int.le_refl _
      · rw [upN_ne e]
        have h1 := (h i h0 hi e).1 (by omega)
        rw [q] at h1
        exact h1
    refine ⟨by omega, fun ha => ?_⟩
    rw [upN_ne (k := p) (i := ((p - 1) / 2 - 1) / 2) (by omega)]
    have h2 := (h ((p - 1) / 2) ha (by omega) hpa).1 (by omega)
    omega
theorem HP_put {n p x : Nat} {H : Nat → Nat} {hp sp L : Nat → Int} (hpn : p < n) (hx : x < 2000) (h : HO n p x H hp sp) (h1 : ∀ i, 0 < i → i < n → ¬ i = p → (¬ (i - 1) / 2 = p → L (H ((i - 1) / 2)) ≤ L (H i)) ∧ ((i - 1) / 2 = p → L x ≤ L (H i))) (h2 : 0 < p → L (H ((p - 1) / 2)) ≤ L x) : HP n (upN H p x) (z_row hp p (x : Int)) (z_row sp x (p : Int)) L := by
  refine ⟨fun i hi => ?_, fun i h0 hi => ?_⟩
  · by_cases c : i = p
    · subst c
      rw [upN_at, zrow_at, zrow_at]
      exact ⟨rfl, hx, rfl⟩
    · have := h i hi c
      rw [upN_ne c, zrow_ne c, zrow_ne this.2.2.1]
      exact ⟨this.1, this.2.1, this.2.2.2⟩
  · by_cases c : i = p
    · rw [c, upN_at, upN_ne (by omega)]
      exact h2 (by omega)
    · rw [upN_ne c]
      have := h1 i h0 hi c
      by_cases e : (i - 1) / 2 = p
      · rw [e, upN_at]; exact this.2 e
      · rw [upN_ne e]; exact this.1 e
theorem hM_put {n p x : Nat} {H : Nat → Nat} (hpn : p < n) (y : Nat) : hM n n (upN H p x) y ↔ (y = x ∨ hM n p H y) := by
  constructor
  · rintro ⟨i, hi, -, e⟩
    by_cases c : i = p
    · subst c
      rw [upN_at] at e
      exact Or.inl e.symm
    · rw [upN_ne c] at e
      exact Or.inr ⟨i, hi, c, e⟩
  · rintro (e | ⟨i, hi, hip, e⟩)
    · exact ⟨p, hpn, by omega, by rw [upN_at]; exact e.symm⟩
    · exact ⟨i, hi, by omega, by rw [upN_ne hip]; exact e⟩
theorem OV_mv {n p a x : Nat} {H : Nat → Nat} {L : Nat → Int} (hpn : p < n) (han : a < n) (hap : (a - 1) / 2 = p) (ha0 : 0 < a) (hmin : ∀ i, 0 < i → i < n → (i - 1) / 2 = p → L (H a) ≤ L (H i)) (h : OV n p x H L) (c : L (H a) < L x) : OV n a x (upN H p (H a)) L := by
  have hne : ¬ a = p := by omega
  refine ⟨fun i h0 hi hia => ⟨fun q => ?_, fun q _ => ?_⟩, fun _ => ?_⟩
  · by_cases e : i = p
    · rw [e, upN_at, upN_ne (by omega)]
      have := (h.1 a ha0 han hne).2 hap (by omega)
      exact this
    · have h1 := h.1 i h0 hi e
      rw [upN_ne e]
      by_cases e2 : (i - 1) / 2 = p
      · rw [e2, upN_at]
        exact hmin i h0 hi e2
      · rw [upN_ne e2]
        exact h1.1 e2
  · rw [hap, upN_at, upN_ne (by omega)]
    have h1 := (h.1 i h0 hi (by omega)).1 (by omega)
    rw [q] at h1
    exact h1
  · rw [hap, upN_at]
    omega
theorem HP_min {n : Nat} {H : Nat → Nat} {hp sp L : Nat → Int} (h : HP n H hp sp L) : ∀ m i, i ≤ m → i < n → L (H 0) ≤ L (H i) := by
  intro m
  induction m with
  | zero => intro i hi _; rw [show i = 0 by omega]; exact Int.le_refl _
  | succ m ih =>
    intro i hi hin
    by_cases c : i = 0
    · rw [c]; exact Int.le_refl _
    · have h1 := h.2 i (by omega) hin
      have h2 := ih ((i - 1) / 2) (by omega) (by omega)
      omega
theorem HP_inj {n : Nat} {H : Nat → Nat} {hp sp L : Nat → Int} (h : HP n H hp sp L) : ∀ i j, i < n → j < n → H i = H j → i = j := by
  intro i j hi hj e
  have h1 := (h.1 i hi).2.2
  have h2 := (h.1 j hj).2.2
  rw [e, h2] at h1
  omega
