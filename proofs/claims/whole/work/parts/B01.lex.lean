/-! ===== the two readers: tokens, pure; the class's advance ===== -/
def xL (c : Nat) : Bool := decide (97 ≤ c ∧ c ≤ 122)
def xD (c : Nat) : Bool := decide (48 ≤ c ∧ c ≤ 57)
def xB (c : Nat) : Bool := decide (c = 32 ∨ c = 10)
def xG (c : Nat) : Bool := decide (c = 59 ∨ c = 40 ∨ c = 41 ∨ c = 43 ∨ c = 45 ∨ c = 42 ∨ c = 47 ∨ c = 60 ∨ c = 61)
def xScn (f : Nat → Bool) (B : Nat → Nat) (m p : Nat) : Nat := match m with
  | 0 => p
  | k + 1 => if f (B p) = true then xScn f B k (p + 1) else p
theorem xScn_r {f : Nat → Bool} {B : Nat → Nat} : ∀ (m p : Nat), p ≤ xScn f B m p ∧ xScn f B m p ≤ p + m := by
  intro m
  induction m with
  | zero => intro p; exact ⟨Nat.le_refl _, Nat.le_refl _⟩
  | succ k ih =>
    intro p
    have := ih (p + 1)
    unfold xScn
    split <;> omega
theorem xScn_y {f : Nat → Bool} {B : Nat → Nat} {k p : Nat} (h : f (B p) = true) : xScn f B (k + 1) p = xScn f B k (p + 1) := by
  show (if f (B p) = true then xScn f B k (p + 1) else p) = _
  rw [if_pos h]
theorem xScn_n {f : Nat → Bool} {B : Nat → Nat} {k p : Nat} (h : f (B p) = false) : xScn f B (k + 1) p = p := by
  show (if f (B p) = true then xScn f B k (p + 1) else p) = _
  rw [if_neg (by rw [h]; decide)]
/-- all before the end -/
theorem xScn_in {f : Nat → Bool} {B : Nat → Nat} : ∀ (m p i : Nat), p ≤ i → i < xScn f B m p → f (B i) = true := by
  intro m
  induction m with
  | zero => intro p i h1 h2; have h2 : i < p := h2; omega
  | succ k ih =>
    intro p i h1 h2
    cases hf : f (B p) with
    | false => rw [xScn_n hf] at h2; omega
    | true =>
      rw [xScn_y hf] at h2
      by_cases c : i = p
      · rw [c]; exact hf
      · exact ih (p + 1) i (by omega) h2
/-- where a token begins, its sort, where it ends, its number -/
def xS (B : Nat → Nat) (n p : Nat) : Nat := xScn xB B (n - p) p
def xK (B : Nat → Nat) (n p : Nat) : Nat := if n ≤ xS B n p then 0 else if xL (B (xS B n p)) = true then 1 else if xD (B (xS B n p)) = true then 2 else if xG (B (xS B n p)) = true then 3 else 4
def xE (B : Nat → Nat) (n p : Nat) : Nat := if n ≤ xS B n p then xS B n p else if xL (B (xS B n p)) = true then xScn xL B (n - xS B n p) (xS B n p) else if xD (B (xS B n p)) = true then xScn xD B (n - xS B n p) (xS B n p) else xS B n p + 1
def xVal (B : Nat → Nat) (s m : Nat) : Nat := match m with
  | 0 => 0
  | k + 1 => xVal B s k * 10 + (B (s + k) - 48)
def xV (B : Nat → Nat) (n p : Nat) : Nat := xVal B (xS B n p) (min 3 (xE B n p - xS B n p))
theorem xS_r {B : Nat → Nat} {n p : Nat} (h : p ≤ n) : p ≤ xS B n p ∧ xS B n p ≤ n := by
  have := xScn_r (f := xB) (B := B) (n - p) p
  unfold xS
  omega
theorem xE_r {B : Nat → Nat} {n p : Nat} (h : p ≤ n) : xS B n p ≤ xE B n p ∧ xE B n p ≤ n ∧ (xS B n p < n → xS B n p < xE B n p) := by
  have hs := xS_r (B := B) h
  have one : ∀ (f : Nat → Bool), f (B (xS B n p)) = true → xS B n p < n → xS B n p < xScn f B (n - xS B n p) (xS B n p) := fun f hf hl => by
    obtain ⟨k, hk⟩ : ∃ k, n - xS B n p = k + 1 := ⟨n - xS B n p - 1, by omega⟩
    rw [hk, xScn_y hf]
    have := xScn_r (f := f) (B := B) k (xS B n p + 1)
    omega
  unfold xE
  by_cases c : n ≤ xS B n p
  · rw [if_pos c]; omega
  · rw [if_neg c]
    by_cases c1 : xL (B (xS B n p)) = true
    · rw [if_pos c1]
      have r := xScn_r (f := xL) (B := B) (n - xS B n p) (xS B n p)
      have o := one xL c1
      omega
    · rw [if_neg c1]
      by_cases c2 : xD (B (xS B n p)) = true
      · rw [if_pos c2]
        have r := xScn_r (f := xD) (B := B) (n - xS B n p) (xS B n p)
        have o := one xD c2
        omega
      · rw [if_neg c2]; omega
theorem xK_le (B : Nat → Nat) (n p : Nat) : xK B n p ≤ 4 := by
  unfold xK
  split
  · omega
  · split
    · omega
    · split
      · omega
      · split <;> omega
theorem xK_lt {B : Nat → Nat} {n p : Nat} (h : ¬ xK B n p = 0) : xS B n p < n := by
  unfold xK at h
  by_cases c : n ≤ xS B n p
  · rw [if_pos c] at h; exact absurd rfl h
  · omega
theorem xVal_lt {B : Nat → Nat} {s m : Nat} (hm : m ≤ 3) (h : ∀ i, i < m → B (s + i) ≤ 57) : xVal B s m ≤ 999 := by
  have h0 : m = 0 ∨ m = 1 ∨ m = 2 ∨ m = 3 := by omega
  rcases h0 with e | e | e | e <;> subst e
  · exact Nat.zero_le _
  · have := h 0 (by omega)
    show 0 * 10 + (B (s + 0) - 48) ≤ 999
    omega
  · have a := h 0 (by omega)
    have b := h 1 (by omega)
    show (0 * 10 + (B (s + 0) - 48)) * 10 + (B (s + 1) - 48) ≤ 999
    omega
  · have a := h 0 (by omega)
    have b := h 1 (by omega)
    have c := h 2 (by omega)
    show ((0 * 10 + (B (s + 0) - 48)) * 10 + (B (s + 1) - 48)) * 10 + (B (s + 2) - 48) ≤ 999
    omega
theorem xD_iff {c : Nat} : xD c = true ↔ 48 ≤ c ∧ c ≤ 57 := by unfold xD; exact decide_eq_true_iff
theorem xL_iff {c : Nat} : xL c = true ↔ 97 ≤ c ∧ c ≤ 122 := by unfold xL; exact decide_eq_true_iff
theorem xB_iff {c : Nat} : xB c = true ↔ c = 32 ∨ c = 10 := by unfold xB; exact decide_eq_true_iff
theorem b_no {b : Bool} (h : ¬ b = true) : b = false := by cases b; rfl; exact absurd rfl h
theorem xV_le {B : Nat → Nat} {n p : Nat} (hk : xK B n p = 2) : xV B n p ≤ 999 := by
  unfold xV
  have hl := xK_lt (by rw [hk]; decide : ¬ xK B n p = 0)
  have h2 : xD (B (xS B n p)) = true ∧ ¬ xL (B (xS B n p)) = true := by
    unfold xK at hk
    rw [if_neg (by omega)] at hk
    by_cases c1 : xL (B (xS B n p)) = true
    · rw [if_pos c1] at hk; omega
    · rw [if_neg c1] at hk
      by_cases c2 : xD (B (xS B n p)) = true
      · exact ⟨c2, c1⟩
      · rw [if_neg c2] at hk
        split at hk <;> omega
  refine xVal_lt (by omega) (fun i hi => ?_)
  have e : xE B n p = xScn xD B (n - xS B n p) (xS B n p) := by
    unfold xE
    rw [if_neg (by omega), if_neg h2.2, if_pos h2.1]
  rw [e] at hi
  exact (xD_iff.1 (xScn_in (f := xD) (n - xS B n p) (xS B n p) (xS B n p + i) (by omega) (by omega))).2
/-- the tape -/
def sgn (b : Nat) : Int := if b < 128 then (b : Int) else (b : Int) - 256
def CB (I : Nat → Nat → Int) (B : Nat → Nat) : Prop := ∀ i, i < 700 → I 85 i = sgn (B i) ∧ B i < 256
def xFA (I I' : Nat → Nat → Int) : Prop := (∀ a, ¬ a = 805 → I' a = I a) ∧ ∀ k, ¬ k = 3 → ¬ k = 4 → ¬ k = 5 → ¬ k = 6 → I' 805 k = I 805 k
theorem xFA.rf (I : Nat → Nat → Int) : xFA I I := ⟨fun _ _ => rfl, fun _ _ _ _ _ => rfl⟩
theorem xFA.tr {I I1 I2 : Nat → Nat → Int} (h : xFA I I1) (h' : xFA I1 I2) : xFA I I2 := ⟨fun a h1 => (h'.1 a h1).trans (h.1 a h1), fun k h1 h2 h3 h4 => (h'.2 k h1 h2 h3 h4).trans (h.2 k h1 h2 h3 h4)⟩
theorem xFA.u {I : Nat → Nat → Int} {k : Nat} {v : Int} (h : k = 3 ∨ k = 4 ∨ k = 5 ∨ k = 6) : xFA I (z_u I 805 k v) := ⟨fun a h1 => zu_ne h1, fun q _ _ _ _ => zu_nk (by omega)⟩
theorem CB.fa {I I' : Nat → Nat → Int} {B : Nat → Nat} (h : CB I B) (f : xFA I I') : CB I' B := by
  unfold CB
  rw [f.1 85 (by decide)]
  exact h
theorem sgn_in {b : Nat} (h : b < 256) : inR (sgn b) := by unfold sgn; split <;> exact ⟨by omega, by omega⟩
theorem sgn_v {b : Nat} (h : b < 256) : (b < 128 ∧ sgn b = b) ∨ (128 ≤ b ∧ sgn b = (b : Int) - 256) := by unfold sgn; split; exact Or.inl ⟨by omega, rfl⟩; exact Or.inr ⟨by omega, rfl⟩
section
variable {sc : mS} {d : Nat} {t : zT} {I J : Nat → Nat → Int} {Q : zR → zW → Prop} {B : Nat → Nat}
theorem k99 {x1 : Int} {p : Nat} (e1 : x1 = p) (hB : CB I B) (hp : p < 700) (h : Q (.inl (some (vi (((xL (B p)).toNat : Nat) : Int)))) (z_cfg t, I, J)) : Go sc d mt_99 0 [vr 805, vi x1] [] (z_cfg t, I, J) Q := by
  subst e1
  have hb := hB p hp
  have hv := sgn_v hb.2
  refine b99_0 ?_
  rw [Int.toNat_natCast, hb.1]
  refine ⟨⟨by omega, by omega⟩, fun c => by omega, fun _ => ⟨fun _ => ⟨sgn_in hb.2, fun c => ?_, fun c => ⟨fun c2 => ?_, fun c2 => ?_⟩⟩, fun c => by omega⟩⟩
  · rw [b_no (fun z => by have := xL_iff.1 z; omega : ¬ xL (B p) = true)] at h; exact h
  · rw [b_no (fun z => by have := xL_iff.1 z; omega : ¬ xL (B p) = true)] at h; exact h
  · rw [xL_iff.2 (by omega)] at h; exact h
theorem k100 {x1 : Int} {p : Nat} (e1 : x1 = p) (hB : CB I B) (hp : p < 700) (h : Q (.inl (some (vi (((xD (B p)).toNat : Nat) : Int)))) (z_cfg t, I, J)) : Go sc d mt_100 0 [vr 805, vi x1] [] (z_cfg t, I, J) Q := by
  subst e1
  have hb := hB p hp
  have hv := sgn_v hb.2
  refine b100_0 ?_
  rw [Int.toNat_natCast, hb.1]
  refine ⟨⟨by omega, by omega⟩, fun c => by omega, fun _ => ⟨fun _ => ⟨sgn_in hb.2, fun c => ?_, fun c => ⟨fun c2 => ?_, fun c2 => ?_⟩⟩, fun c => by omega⟩⟩
  · rw [b_no (fun z => by have := xD_iff.1 z; omega : ¬ xD (B p) = true)] at h; exact h
  · rw [b_no (fun z => by have := xD_iff.1 z; omega : ¬ xD (B p) = true)] at h; exact h
  · rw [xD_iff.2 (by omega)] at h; exact h
theorem k101 {x0 : Int} {b : Nat} (e0 : x0 = sgn b) (hb : b < 256) (h : Q (.inl (some (vi (((xG b).toNat : Nat) : Int)))) (z_cfg t, I, J)) : Go sc d mt_101 0 [vi x0] [] (z_cfg t, I, J) Q := by
  subst e0
  have hv := sgn_v hb
  have y : (b = 59 ∨ b = 40 ∨ b = 41 ∨ b = 43 ∨ b = 45 ∨ b = 42 ∨ b = 47 ∨ b = 60 ∨ b = 61) → Q (.inl (some (vi 1))) (z_cfg t, I, J) := fun z => by
    unfold xG at h; rw [decide_eq_true z] at h; exact h
  have n : ¬ (b = 59 ∨ b = 40 ∨ b = 41 ∨ b = 43 ∨ b = 45 ∨ b = 42 ∨ b = 47 ∨ b = 60 ∨ b = 61) → Q (.inl (some (vi 0))) (z_cfg t, I, J) := fun z => by
    unfold xG at h; rw [decide_eq_false z] at h; exact h
  refine b101_0 ⟨sgn_in hb, ⟨fun c => y (by omega), fun c => y (by omega), fun c => y (by omega), fun c => y (by omega), fun c => n (by omega), fun c => y (by omega), fun c => n (by omega), fun c => y (by omega), fun c => n (by omega), fun c => n (by omega), fun c => n (by omega), fun c => n (by omega), fun c => n (by omega), fun c => n (by omega), fun c => n (by omega), fun c => n (by omega), fun c => n (by omega), fun c => n (by omega), fun c => n (by omega), fun c => y (by omega), fun c => y (by omega), fun c => y (by omega), trivial⟩, fun c => n (by omega)⟩
/-- the class's token at p -/
def CT (I : Nat → Nat → Int) (B : Nat → Nat) (n p : Nat) : Prop := I 805 2 = n ∧ I 805 3 = xE B n p ∧ I 805 4 = xK B n p ∧ I 805 5 = xS B n p ∧ (xK B n p = 2 → I 805 6 = xV B n p)
theorem k98 {n p : Nat} (hd : 1 ≤ d) (hB : CB I B) (hn : n ≤ 700) (h2 : I 805 2 = n) (h3 : I 805 3 = p) (hp : p ≤ n) (h : ∀ (I' : Nat → Nat → Int), xFA I I' → CT I' B n p → Q (.inl none) (z_cfg t, I', J)) : Go sc d mt_98 0 [vr 805] [] (z_cfg t, I, J) Q := by
  have hs := xS_r (B := B) hp
  have at2 : ∀ I1, xFA I I1 → I1 805 2 = n := fun I1 f => by rw [f.2 2 (by decide) (by decide) (by decide) (by decide)]; exact h2
  have skip : ∀ (m q : Nat) (I1 : Nat → Nat → Int), q + m = n → xFA I I1 → I1 805 3 = q → (∀ (I2 : Nat → Nat → Int), xFA I I2 → I2 805 3 = xScn xB B m q → Go sc d mt_98 52 [vr 805] [] (z_cfg t, I2, J) Q) → Go sc d mt_98 0 [vr 805] [] (z_cfg t, I1, J) Q := by
    intro m
    induction m with
    | zero =>
      intro q I1 hq f1 e3 hk
      refine b98_0 ?_
      rw [e3, at2 I1 f1]
      exact ⟨⟨by omega, by omega⟩, ⟨by omega, by omega⟩, fun z => by omega, fun _ => hk I1 f1 e3⟩
    | succ m ih =>
      intro q I1 hq f1 e3 hk
      have hb := (hB.fa f1) q (by omega)
      have hv := sgn_v hb.2
      have nx : xB (B q) = true → Go sc d mt_98 39 [vr 805] [] (z_cfg t, I1, J) Q := fun z => by
        rw [xScn_y z] at hk
        refine b98_39 ?_
        rw [e3, show (q : Int) + 1 = ((q + 1 : Nat) : Int) by omega]
        exact ih (q + 1) _ (by omega) (f1.tr (xFA.u (by omega))) (zu_same _ _ _ _) hk
      refine b98_0 ?_
      rw [e3, at2 I1 f1, Int.toNat_natCast, hb.1]
      refine ⟨⟨by omega, by omega⟩, ⟨by omega, by omega⟩, fun _ => ⟨⟨by omega, by omega⟩, sgn_in hb.2, fun c => nx (xB_iff.2 (by omega)), fun c => ⟨fun c2 => nx (xB_iff.2 (by omega)), fun c2 => ?_⟩⟩, fun z => by omega⟩
      rw [xScn_n (b_no (fun z => by have := xB_iff.1 z; omega : ¬ xB (B q) = true))] at hk
      exact hk I1 f1 e3
  have letters : ∀ (m q : Nat) (I1 : Nat → Nat → Int), q + m = n → xFA I I1 → I1 805 3 = q → (∀ (I2 : Nat → Nat → Int), xFA I I2 → I2 805 3 = xScn xL B m q → I2 805 4 = I1 805 4 → I2 805 5 = I1 805 5 → Q (.inl none) (z_cfg t, I2, J)) → Go sc d mt_98 95 [vr 805] [] (z_cfg t, I1, J) Q := by
    intro m
    induction m with
    | zero =>
      intro q I1 hq f1 e3 hk
      refine b98_95 ?_
      rw [e3, at2 I1 f1]
      exact ⟨⟨by omega, by omega⟩, ⟨by omega, by omega⟩, fun z => by omega, fun _ => hk I1 f1 e3 rfl rfl⟩
    | succ m ih =>
      intro q I1 hq f1 e3 hk
      refine b98_95 ?_
      rw [e3, at2 I1 f1]
      refine ⟨⟨by omega, by omega⟩, ⟨by omega, by omega⟩, fun _ => ?_, fun z => by omega⟩
      refine c99 hd (fun d' _ => k99 rfl (hB.fa f1) (by omega) (b98_114 ?_))
      cases hl : xL (B q) with
      | false =>
        rw [xScn_n hl] at hk
        exact ⟨⟨by decide, by decide⟩, fun _ => hk I1 f1 e3 rfl rfl, fun z => absurd rfl z⟩
      | true =>
        rw [xScn_y hl] at hk
        refine ⟨⟨by decide, by decide⟩, fun z => absurd z (by decide), fun _ => ?_⟩
        rw [e3, show (q : Int) + 1 = ((q + 1 : Nat) : Int) by omega]
        exact ih (q + 1) _ (by omega) (f1.tr (xFA.u (by omega))) (zu_same _ _ _ _) (fun I2 f2 g1 g2 g3 => hk I2 f2 g1 (by rw [g2, zu_nk (by decide)]) (by rw [g3, zu_nk (by decide)]))
  have digits : ∀ (m q s : Nat) (I1 : Nat → Nat → Int), q + m = n → s ≤ q → xFA I I1 → I1 805 3 = q → I1 805 5 = s → I1 805 6 = ((xVal B s (min 3 (q - s)) : Nat) : Int) → (∀ i, s ≤ i → i < q → xD (B i) = true) → (∀ (I2 : Nat → Nat → Int), xFA I I2 → I2 805 3 = xScn xD B m q → I2 805 4 = I1 805 4 → I2 805 5 = s → I2 805 6 = ((xVal B s (min 3 (xScn xD B m q - s)) : Nat) : Int) → Q (.inl none) (z_cfg t, I2, J)) → Go sc d mt_98 151 [vr 805] [] (z_cfg t, I1, J) Q := by
    intro m
    induction m with
    | zero =>
      intro q s I1 hq hsq f1 e3 e5 e6 _ hk
      refine b98_151 ?_
      rw [e3, at2 I1 f1]
      exact ⟨⟨by omega, by omega⟩, ⟨by omega, by omega⟩, fun z => by omega, fun _ => hk I1 f1 e3 rfl e5 e6⟩
    | succ m ih =>
      intro q s I1 hq hsq f1 e3 e5 e6 hdg hk
      refine b98_151 ?_
      rw [e3, at2 I1 f1]
      refine ⟨⟨by omega, by omega⟩, ⟨by omega, by omega⟩, fun _ => ?_, fun z => by omega⟩
      refine c100 hd (fun d' _ => k100 rfl (hB.fa f1) (by omega) (b98_170 ?_))
      have hb := (hB.fa f1) q (by omega)
      cases hl : xD (B q) with
      | false =>
        rw [xScn_n hl] at hk
        exact ⟨⟨by decide, by decide⟩, fun _ => hk I1 f1 e3 rfl e5 e6, fun z => absurd rfl z⟩
      | true =>
        rw [xScn_y hl] at hk
        have hq2 := xD_iff.1 hl
        have hv := sgn_v hb.2
        have nx : ∀ x : Int, x = ((xVal B s (min 3 (q + 1 - s)) : Nat) : Int) → Go sc d mt_98 214 [vr 805] [vi x, vr 805] (z_cfg t, I1, J) Q := fun x hx => by
          refine b98_214 ?_
          rw [e3, show (q : Int) + 1 = ((q + 1 : Nat) : Int) by omega]
          refine ih (q + 1) s _ (by omega) (by omega) (f1.tr ((xFA.u (by omega)).tr (xFA.u (by omega)))) (zu_same _ _ _ _) (by rw [zu_nk (by decide), zu_nk (by decide)]; exact e5) (by rw [zu_nk (by decide), zu_same]; exact hx) (fun i h1 h2 => ?_) (fun I2 f2 g1 g2 g3 g4 => hk I2 f2 g1 (by rw [g2, zu_nk (by decide), zu_nk (by decide)]) g3 g4)
          by_cases z : i = q
          · rw [z]; exact hl
          · exact hdg i h1 (by omega)
        rw [e3, e5, e6, Int.toNat_natCast, hb.1]
        refine ⟨⟨by decide, by decide⟩, fun z => absurd z (by decide), fun _ => ⟨⟨by omega, by omega⟩, fun c => ⟨⟨by omega, by omega⟩, nx _ ?_⟩, fun c => nx _ ?_⟩⟩
        · rw [show min 3 (q - s) = q - s by omega, show min 3 (q + 1 - s) = q - s + 1 by omega]
          show _ = ((xVal B s (q - s) * 10 + (B (s + (q - s)) - 48) : Nat) : Int)
          rw [show s + (q - s) = q by omega]
          omega
        · rw [show min 3 (q - s) = 3 by omega, show min 3 (q + 1 - s) = 3 by omega]
  refine skip (n - p) p I (by omega) (xFA.rf I) h3 (fun I1 f1 e3 => ?_)
  have e3 : I1 805 3 = xS B n p := e3
  refine b98_52 ?_
  rw [e3, at2 I1 f1]
  have F5 : xFA I (z_u I1 805 5 ((xS B n p : Nat) : Int)) := f1.tr (xFA.u (by omega))
  refine ⟨⟨by omega, by omega⟩, ⟨by omega, by omega⟩, fun c => ?_, fun c => ?_⟩
  · have hlt : ¬ n ≤ xS B n p := by omega
    have e35 : z_u I1 805 5 ((xS B n p : Nat) : Int) 805 3 = xS B n p := by rw [zu_nk (by decide)]; exact e3
    refine c99 hd (fun d' _ => k99 rfl (hB.fa F5) (by omega) (b98_87 ?_))
    cases hl : xL (B (xS B n p)) with
    | true =>
      refine ⟨⟨by decide, by decide⟩, fun z => absurd z (by decide), fun _ => ?_⟩
      refine letters (n - xS B n p) (xS B n p) _ (by omega) (F5.tr (xFA.u (by omega))) (by rw [zu_nk (by decide)]; exact e35) (fun I2 f2 g1 g2 g3 => h I2 f2 ?_)
      have ek : xK B n p = 1 := by unfold xK; rw [if_neg hlt, if_pos hl]
      have ee : xE B n p = xScn xL B (n - xS B n p) (xS B n p) := by unfold xE; rw [if_neg hlt, if_pos hl]
      exact ⟨at2 I2 f2, by rw [g1, ee], by rw [g2, zu_same, ek]; rfl, by rw [g3, zu_nk (by decide), zu_same], fun z => by omega⟩
    | false =>
      refine ⟨⟨by decide, by decide⟩, fun _ => ?_, fun z => absurd rfl z⟩
      have hl' : ¬ xL (B (xS B n p)) = true := by rw [hl]; decide
      rw [e35]
      refine c100 hd (fun d' _ => k100 rfl (hB.fa F5) (by omega) (b98_138 ?_))
      cases hg : xD (B (xS B n p)) with
      | true =>
        refine ⟨⟨by decide, by decide⟩, fun z => absurd z (by decide), fun _ => ?_⟩
        have ek : xK B n p = 2 := by unfold xK; rw [if_neg hlt, if_neg hl', if_pos hg]
        have ee : xE B n p = xScn xD B (n - xS B n p) (xS B n p) := by unfold xE; rw [if_neg hlt, if_neg hl', if_pos hg]
        refine digits (n - xS B n p) (xS B n p) (xS B n p) _ (by omega) (Nat.le_refl _) (F5.tr ((xFA.u (by omega)).tr (xFA.u (by omega)))) (by rw [zu_nk (by decide), zu_nk (by decide)]; exact e35) (by rw [zu_nk (by decide), zu_nk (by decide), zu_same]) (by rw [zu_same, Nat.sub_self]; rfl) (fun i h1 h2 => absurd h1 (by omega)) (fun I2 f2 g1 g2 g3 g4 => h I2 f2 ?_)
        exact ⟨at2 I2 f2, by rw [g1, ee], by rw [g2, zu_nk (by decide), zu_same, ek]; rfl, g3, fun _ => by rw [g4]; unfold xV; rw [ee]⟩
      | false =>
        have hg' : ¬ xD (B (xS B n p)) = true := by rw [hg]; decide
        have ee : xE B n p = xS B n p + 1 := by unfold xE; rw [if_neg hlt, if_neg hl', if_neg hg']
        have hb := (hB.fa F5) (xS B n p) (by omega)
        rw [e35, Int.toNat_natCast]
        refine ⟨⟨by decide, by decide⟩, fun _ => ⟨⟨by omega, by omega⟩, ?_⟩, fun z => absurd rfl z⟩
        refine c101 hd (fun d' _ => k101 hb.1 hb.2 (b98_243 ?_))
        have fin : ∀ x : Int, x = xK B n p → Go sc d mt_98 251 [vr 805] [vi x, vr 805] (z_cfg t, z_u I1 805 5 ((xS B n p : Nat) : Int), J) Q := fun x hx => by
          refine b98_251 (h _ (F5.tr ((xFA.u (by omega)).tr (xFA.u (by omega)))) ⟨?_, ?_, ?_, ?_, fun z => ?_⟩)
          · exact at2 _ (F5.tr ((xFA.u (by omega)).tr (xFA.u (by omega))))
          · rw [zu_same, e35, ee]; omega
          · rw [zu_nk (by decide), zu_same]; exact hx
          · rw [zu_nk (by decide), zu_nk (by decide), zu_same]
          · have : xK B n p = 3 ∨ xK B n p = 4 := by
              unfold xK
              rw [if_neg hlt, if_neg hl', if_neg hg']
              split
              · exact Or.inl rfl
              · exact Or.inr rfl
            omega
        cases hq : xG (B (xS B n p)) with
        | true =>
          exact ⟨⟨by decide, by decide⟩, fun z => absurd z (by decide), fun _ => fin 3 (by unfold xK; rw [if_neg hlt, if_neg hl', if_neg hg', if_pos hq]; rfl)⟩
        | false =>
          exact ⟨⟨by decide, by decide⟩, fun _ => fin 4 (by unfold xK; rw [if_neg hlt, if_neg hl', if_neg hg', if_neg (by rw [hq]; decide)]; rfl), fun z => absurd rfl z⟩
  · have hge : n ≤ xS B n p := by omega
    have ek : xK B n p = 0 := by unfold xK; rw [if_pos hge]
    have ee : xE B n p = xS B n p := by unfold xE; rw [if_pos hge]
    have FF : xFA I (z_u (z_u I1 805 5 ((xS B n p : Nat) : Int)) 805 4 0) := F5.tr (xFA.u (by omega))
    exact h _ FF ⟨at2 _ FF, by rw [zu_nk (by decide), zu_nk (by decide), ee]; exact e3, by rw [zu_same, ek]; rfl, by rw [zu_nk (by decide), zu_same], fun z => by omega⟩
end
