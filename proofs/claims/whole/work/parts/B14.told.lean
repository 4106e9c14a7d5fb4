/-! ===== a text, pure: what is told so far ===== -/
def fup {α : Type} (f : Nat → α) (n : Nat) (v : α) : Nat → α := fun i => if i = n then v else f i
theorem fup_y {α : Type} (f : Nat → α) (n : Nat) (v : α) : fup f n v n = v := if_pos rfl
theorem fup_n {α : Type} {f : Nat → α} {n i : Nat} {v : α} (h : ¬ i = n) : fup f n v i = f i := if_neg h
def d_S (D : tD) (v : Nat) : tD := ((v, dT D, dB D, dL D), D.2)
def d_T (D : tD) (w m l : Nat) : tD := ((dS D, dT D + 1, dB D, dL D), D.2.1, (fup (dWt D) (dT D) w, fup (dMi D) (dT D) m, fup (dLe D) (dT D) l), D.2.2.2)
def d_B (D : tD) (h l a : Nat) : tD := ((dS D, dT D, dB D + 1, dL D), D.2.1, D.2.2.1, (fup (dHo D) (dB D) h, fup (dLo D) (dB D) l, fup (dAt D) (dB D) a), D.2.2.2.2)
def d_La (D : tD) (v : Int) : tD := (D.1, v, D.2.2)
def d_W (D : tD) (f : Nat → Nat) : tD := (D.1, D.2.1, D.2.2.1, D.2.2.2.1, f, D.2.2.2.2.2)
def d_L (D : tD) (s : Int) (C : List Int) : tD := ((dS D, dT D, dB D, dL D + 1), D.2.1, D.2.2.1, D.2.2.2.1, dWa D, fup (dSc D) (dL D) s, fup (dCo D) (dL D) C)
def dIni : tD := ((2, 0, 0, 0), -1, (fun _ => 0, fun _ => 0, fun _ => 0), (fun _ => 0, fun _ => 0, fun _ => 0), fun _ => 0, fun _ => -1, fun _ => [])
def w_one (f : Nat → Nat) (a b : Nat) : Nat → Nat := fup f a (f a ||| 2 ^ b)
def w_add (f : Nat → Nat) (a b : Nat) (both : Bool) : Nat → Nat := if both = true then w_one (w_one f a b) b a else w_one f a b
def w_all : Nat → Nat := fun i => if i = 0 then 14 else if i = 1 then 13 else if i = 2 then 11 else 7
theorem cOk.mono {n m : Nat} {c : Int} (h : cOk n c) (l : n ≤ m) : cOk m c := by
  unfold cOk at h ⊢
  omega
theorem dOk.ini : dOk dIni := ⟨by decide, by decide, by decide, by decide, Or.inl rfl, fun i hi => absurd hi (Nat.not_lt_zero _), fun i hi => absurd hi (Nat.not_lt_zero _), fun i _ => ⟨(by decide : (0 : Nat) < 16), Nat.zero_testBit i⟩, fun i hi => absurd hi (Nat.not_lt_zero _)⟩
theorem dOk.S {D : tD} {v : Nat} (h : dOk D) (hv : 2 ≤ v ∧ v ≤ 4) (hb : dB D = 0) (hl : dLamp D = -1) (h0 : dL D = 0) : dOk (d_S D v) := by
  obtain ⟨h1, h2, h3, h4, h5, h6, h7, h8, h9⟩ := h
  exact ⟨hv, h2, h3, h4, Or.inl hl, h6, fun b hb' => absurd hb' (by show ¬ b < dB D; omega), h8, fun k hk => absurd hk (by show ¬ k < dL D; omega)⟩
theorem dOk.T {D : tD} {w m l : Nat} (h : dOk D) (ht : dT D < 8) (hw : w ≤ 99) (hm : m ≤ 99) (hl : l ≤ 122) : dOk (d_T D w m l) := by
  obtain ⟨h1, h2, h3, h4, h5, h6, h7, h8, h9⟩ := h
  refine ⟨h1, ht, h3, h4, h5, fun i hi => ?_, h7, h8, fun k hk => ⟨(h9 k hk).1, (h9 k hk).2.1, fun c hc => ((h9 k hk).2.2 c hc).mono (Nat.le_succ _)⟩⟩
  have hi : i < dT D + 1 := hi
  show fup (dWt D) (dT D) w i ≤ 99 ∧ fup (dMi D) (dT D) m i ≤ 99 ∧ fup (dLe D) (dT D) l i ≤ 122
  by_cases c : i = dT D
  · rw [c, fup_y, fup_y, fup_y]; exact ⟨hw, hm, hl⟩
  · rw [fup_n c, fup_n c, fup_n c]; exact h6 i (by omega)
theorem dOk.B {D : tD} {ho lo a : Nat} (h : dOk D) (ht : dB D < 2) (hh : 1 ≤ ho ∧ ho ≤ 8) (hl : lo ≤ 999) (ha : a < dS D) : dOk (d_B D ho lo a) := by
  obtain ⟨h1, h2, h3, h4, h5, h6, h7, h8, h9⟩ := h
  refine ⟨h1, h2, ht, h4, h5, h6, fun b hb => ?_, h8, h9⟩
  have hb : b < dB D + 1 := hb
  show (1 ≤ fup (dHo D) (dB D) ho b ∧ fup (dHo D) (dB D) ho b ≤ 8) ∧ fup (dLo D) (dB D) lo b ≤ 999 ∧ fup (dAt D) (dB D) a b < dS D
  by_cases c : b = dB D
  · rw [c, fup_y, fup_y, fup_y]; exact ⟨hh, hl, ha⟩
  · rw [fup_n c, fup_n c, fup_n c]; exact h7 b (by omega)
theorem dOk.La {D : tD} {v : Nat} (h : dOk D) (hv : v < dS D) : dOk (d_La D v) := by
  obtain ⟨h1, h2, h3, h4, h5, h6, h7, h8, h9⟩ := h
  exact ⟨h1, h2, h3, h4, Or.inr ⟨(by omega : (0 : Int) ≤ (v : Int)), (by omega : (v : Int) < dS D)⟩, h6, h7, h8, h9⟩
theorem dOk.W {D : tD} {f : Nat → Nat} (h : dOk D) (hf : ∀ i, i < 4 → f i < 16 ∧ (f i).testBit i = false) : dOk (d_W D f) := by
  obtain ⟨h1, h2, h3, h4, h5, h6, h7, h8, h9⟩ := h
  exact ⟨h1, h2, h3, h4, h5, h6, h7, hf, h9⟩
theorem dOk.L {D : tD} {s : Int} {C : List Int} (h : dOk D) (hl : dL D < 12) (hs : s = -1 ∨ s = -2 ∨ s = -3 ∨ (0 ≤ s ∧ s < dS D)) (hc : cdep C 0 = some 1) (hk : ∀ c ∈ C, cOk (dT D) c) : dOk (d_L D s C) := by
  obtain ⟨h1, h2, h3, h4, h5, h6, h7, h8, h9⟩ := h
  refine ⟨h1, h2, h3, hl, h5, h6, h7, h8, fun k hk2 => ?_⟩
  have hk2 : k < dL D + 1 := hk2
  show (fup (dSc D) (dL D) s k = -1 ∨ fup (dSc D) (dL D) s k = -2 ∨ fup (dSc D) (dL D) s k = -3 ∨ (0 ≤ fup (dSc D) (dL D) s k ∧ fup (dSc D) (dL D) s k < dS D)) ∧ cdep (fup (dCo D) (dL D) C k) 0 = some 1 ∧ ∀ c ∈ fup (dCo D) (dL D) C k, cOk (dT D) c
  by_cases c : k = dL D
  · rw [c, fup_y, fup_y]; exact ⟨hs, hc, hk⟩
  · rw [fup_n c, fup_n c]; exact h9 k (by omega)
theorem w_one_ok {f : Nat → Nat} {a b : Nat} (hf : ∀ i, i < 4 → f i < 16 ∧ (f i).testBit i = false) (hb : b < 4) (hab : ¬ a = b) : ∀ i, i < 4 → w_one f a b i < 16 ∧ (w_one f a b i).testBit i = false := by
  intro i hi
  unfold w_one
  by_cases c : i = a
  · subst c
    rw [fup_y]
    have h1 := hf i hi
    have h2 : 2 ^ b < 2 ^ 4 := Nat.pow_lt_pow_right (by decide) hb
    refine ⟨Nat.or_lt_two_pow (n := 4) h1.1 h2, ?_⟩
    rw [Nat.testBit_or, h1.2, Nat.testBit_two_pow_of_ne (fun z => hab z.symm)]
    rfl
  · rw [fup_n c]; exact hf i hi
theorem w_add_ok {f : Nat → Nat} {a b : Nat} {both : Bool} (hf : ∀ i, i < 4 → f i < 16 ∧ (f i).testBit i = false) (ha : a < 4) (hb : b < 4) (hab : ¬ a = b) : ∀ i, i < 4 → w_add f a b both i < 16 ∧ (w_add f a b both i).testBit i = false := by
  unfold w_add
  split
  · exact w_one_ok (w_one_ok hf hb hab) ha (fun z => hab z.symm)
  · exact w_one_ok hf hb hab
theorem w_one_t {f : Nat → Nat} {a b : Nat} (i j : Nat) : (w_one f a b i).testBit j = ((f i).testBit j || decide (i = a ∧ j = b)) := by
  unfold w_one
  by_cases c : i = a
  · subst c
    rw [fup_y, Nat.testBit_or]
    by_cases c2 : j = b
    · subst c2
      rw [Nat.testBit_two_pow_self, decide_eq_true ⟨rfl, rfl⟩]
    · rw [Nat.testBit_two_pow_of_ne (fun z => c2 z.symm), decide_eq_false (fun z => c2 z.2)]
  · rw [fup_n c, decide_eq_false (fun z => c z.1), Bool.or_false]
theorem w_all_ok : ∀ i, i < 4 → w_all i < 16 ∧ (w_all i).testBit i = false := by decide
theorem w_all_t : ∀ i, i < 4 → ∀ j, j < 4 → (w_all i).testBit j = decide (¬ i = j) := by decide
/-- the code of an expression -/
def GD (D : tD) (h : Nat) (G : Nat → pX) : Prop := ∀ p C q, G p = .inr (C, q) → (∀ c ∈ C, cOk (dT D) c) ∧ ∀ (n : Nat) (r : List Int), n + h ≤ 64 → cdep (C ++ r) n = cdep r (n + 1)
theorem GD.mono {D : tD} {h h' : Nat} {G : Nat → pX} (g : GD D h G) (l : h ≤ h') : GD D h' G := fun p C q e => ⟨(g p C q e).1, fun n r hn => (g p C q e).2 n r (by omega)⟩
theorem cdep_op {o : Int} {n : Nat} {r : List Int} (h : 1200 ≤ o ∧ o ≤ 1207) (hn : 2 ≤ n) : cdep (o :: r) n = cdep r (n - 1) := by
  show (if o < 1200 then _ else if o = 1208 then _ else (if 2 ≤ n then _ else _)) = _
  rw [if_neg (by omega), if_neg (by omega), if_pos hn]
theorem cdep_v {c : Int} {n : Nat} {r : List Int} (h : c < 1200) (hn : n < 64) : cdep (c :: r) n = cdep r (n + 1) := by
  show (if c < 1200 then (if n < 64 then _ else _) else _) = _
  rw [if_pos h, if_pos hn]
theorem cdep_no {n : Nat} {r : List Int} (hn : 1 ≤ n) : ∀ N : Nat, cdep (List.replicate N 1208 ++ r) n = cdep r n := by
  intro N
  induction N with
  | zero => rfl
  | succ N ih =>
    rw [List.replicate_succ]
    show (if (1208 : Int) < 1200 then _ else if (1208 : Int) = 1208 then (if 1 ≤ n then cdep (List.replicate N 1208 ++ r) n else none) else _) = _
    rw [if_neg (by decide), if_pos rfl, if_pos hn, ih]
section
variable {B : Nat → Nat} {n : Nat} {D : tD}
theorem GD.two {h : Nat} {C1 C2 : List Int} {o : Int} (ho : 1200 ≤ o ∧ o ≤ 1207) (h1 : (∀ c ∈ C1, cOk (dT D) c) ∧ ∀ (n : Nat) (r : List Int), n + (h + 1) ≤ 64 → cdep (C1 ++ r) n = cdep r (n + 1)) (h2 : (∀ c ∈ C2, cOk (dT D) c) ∧ ∀ (n : Nat) (r : List Int), n + h ≤ 64 → cdep (C2 ++ r) n = cdep r (n + 1)) : (∀ c ∈ C1 ++ C2 ++ [o], cOk (dT D) c) ∧ ∀ (n : Nat) (r : List Int), n + (h + 1) ≤ 64 → cdep (C1 ++ C2 ++ [o] ++ r) n = cdep r (n + 1) := by
  refine ⟨fun c hc => ?_, fun n r hn => ?_⟩
  · rcases List.mem_append.1 hc with z | z
    · rcases List.mem_append.1 z with z | z
      · exact h1.1 c z
      · exact h2.1 c z
    · rw [List.mem_singleton.1 z]
      unfold cOk
      omega
  · rw [List.append_assoc, List.append_assoc, h1.2 n _ hn, h2.2 (n + 1) _ (by omega)]
    show cdep (o :: r) (n + 1 + 1) = _
    rw [cdep_op ho (by omega)]
    rfl
theorem GD.row {h L : Nat} {sub : Nat → pX} (g : GD D h sub) : ∀ (m p : Nat) (C C' : List Int) (q : Nat), ((∀ c ∈ C, cOk (dT D) c) ∧ ∀ (n : Nat) (r : List Int), n + (h + 1) ≤ 64 → cdep (C ++ r) n = cdep r (n + 1)) → gRow B n sub L m p C = .inr (C', q) → ((∀ c ∈ C', cOk (dT D) c) ∧ ∀ (n : Nat) (r : List Int), n + (h + 1) ≤ 64 → cdep (C' ++ r) n = cdep r (n + 1)) := by
  intro m
  induction m with
  | zero =>
    intro p C C' q hC e
    have e : (Sum.inr (C, p) : pX) = .inr (C', q) := e
    cases e
    exact hC
  | succ m ih =>
    intro p C C' q hC e
    cases ho : xOp B n L p with
    | none =>
      rw [gRow_n ho] at e
      cases e
      exact hC
    | some o =>
      rw [gRow_y ho] at e
      cases hs : sub (xE B n p) with
      | inl e' => rw [hs] at e; cases e
      | inr r =>
        obtain ⟨C2, q2⟩ := r
        rw [hs] at e
        exact ih q2 _ C' q (GD.two (xOp_k ho).2 hC (g _ _ _ hs)) e
theorem GD.lvl {h : Nat} {sub : Nat → pX} (g : GD D h sub) (L : Nat) : GD D (h + 1) (gLvl B n sub L) := by
  intro p C q e
  unfold gLvl at e
  cases hs : sub p with
  | inl e' => rw [hs] at e; cases e
  | inr r =>
    obtain ⟨C2, q2⟩ := r
    rw [hs] at e
    have a := g.mono (Nat.le_succ h) _ _ _ hs
    exact g.row 700 q2 C2 C q a e
theorem GD.tst {h : Nat} {sum : Nat → pX} (g : GD D h sum) : GD D (h + 1) (gTst B n sum) := by
  intro p C q e
  unfold gTst at e
  cases hs : sum p with
  | inl e' => rw [hs] at e; cases e
  | inr r =>
    obtain ⟨C2, q2⟩ := r
    rw [hs] at e
    have a := g.mono (Nat.le_succ h) _ _ _ hs
    cases ho : xOp B n 2 q2 with
    | none =>
      simp only [ho] at e
      cases e
      exact a
    | some o =>
      simp only [ho] at e
      cases hs2 : sum (xE B n q2) with
      | inl e' => simp only [hs2] at e; cases e
      | inr r2 =>
        obtain ⟨C3, q3⟩ := r2
        simp only [hs2] at e
        cases e
        exact GD.two (xOp_k ho).2 a (g _ _ _ hs2)
theorem GD.not {h : Nat} {sum : Nat → pX} (g : GD D h sum) : GD D (h + 1) (gNot B n sum) := by
  intro p C q e
  unfold gNot at e
  split at e
  · cases e
  · cases hs : gTst B n sum (gNs B n 6 p).2 with
    | inl e' => rw [hs] at e; cases e
    | inr r =>
      obtain ⟨C2, q2⟩ := r
      rw [hs] at e
      cases e
      have a := g.tst (B := B) _ _ _ hs
      refine ⟨fun c hc => ?_, fun k r hk => ?_⟩
      · rcases List.mem_append.1 hc with z | z
        · exact a.1 c z
        · rw [(List.mem_replicate.1 z).2]
          unfold cOk
          omega
      · show cdep (C2 ++ List.replicate (gNs B n 6 p).1 1208 ++ r) k = _
        rw [List.append_assoc, a.2 k _ hk, cdep_no (by omega)]
theorem gMs_ok {p : Nat} {c : Int} (h : gMs B n p = some c) : 1100 ≤ c ∧ c ≤ 1105 := by
  unfold gMs at h
  split at h
  · cases h; decide
  · split at h
    · cases h; decide
    · split at h
      · cases h; decide
      · split at h
        · cases h; decide
        · split at h
          · cases h; decide
          · split at h
            · cases h; decide
            · cases h
theorem GD.part {h : Nat} {nst : Nat → pX} (h8 : dT D ≤ 8) (h1 : 1 ≤ h) (g : GD D h nst) : GD D h (gPart B n D nst) := by
  have one : ∀ c : Int, c < 1200 → cOk (dT D) c → ((∀ c' ∈ [c], cOk (dT D) c') ∧ ∀ (n : Nat) (r : List Int), n + h ≤ 64 → cdep ([c] ++ r) n = cdep r (n + 1)) := fun c hc hk => ⟨fun c' hc' => by rw [List.mem_singleton.1 hc']; exact hk, fun n r hn => cdep_v hc (by omega)⟩
  intro p C q e
  unfold gPart at e
  by_cases c1 : xK B n p = 2
  · rw [if_pos c1] at e
    have hv := xV_le c1
    split at e
    · cases e
    · cases e
      exact one _ (by omega) (Or.inl (by omega))
  · rw [if_neg c1] at e
    by_cases c2 : xK B n p = 1 ∧ xE B n p - xS B n p = 1
    · rw [if_pos c2] at e
      cases hm : xNm D (B (xS B n p)) (dT D) 0 with
      | none => rw [hm] at e; cases e
      | some i =>
        rw [hm] at e
        cases e
        have hi := xNm_lt _ _ _ hm
        exact one _ (by omega) (Or.inr (Or.inl (by omega)))
    · rw [if_neg c2] at e
      by_cases c3 : xK B n p = 1
      · rw [if_pos c3] at e
        cases hm : gMs B n p with
        | none => rw [hm] at e; cases e
        | some c =>
          rw [hm] at e
          cases e
          have hc := gMs_ok hm
          exact one _ (by omega) (Or.inr (Or.inr (Or.inl hc)))
      · rw [if_neg c3] at e
        by_cases c4 : xIsG B n 40 (.inl p) = true
        · rw [if_pos c4] at e
          cases hs : nst (xE B n p) with
          | inl e' => rw [hs] at e; cases e
          | inr r =>
            obtain ⟨C2, q2⟩ := r
            rw [hs] at e
            have a := g _ _ _ hs
            by_cases c5 : xIsG B n 41 (.inl q2) = true
            · simp only [if_pos c5] at e
              cases e
              exact a
            · simp only [if_neg c5] at e
              cases e
        · rw [if_neg c4] at e; cases e
theorem GD.or {h : Nat} {nst : Nat → pX} (h8 : dT D ≤ 8) (h1 : 1 ≤ h) (g : GD D h nst) : GD D (h + 5) (gOr B n D nst) := ((((GD.part h8 h1 g).lvl 4).lvl 3).not.lvl 1).lvl 0
theorem GD.exp (h8 : dT D ≤ 8) : ∀ m : Nat, GD D (5 * m + 1) (gExp B n D m) := by
  intro m
  induction m with
  | zero =>
    intro p C q e
    unfold gExp at e
    cases e
  | succ k ih =>
    have a := GD.or (B := B) (n := n) h8 (by omega) ih
    exact a
theorem gExp_ok {p q : Nat} {C : List Int} (h8 : dT D ≤ 8) (h : gExp B n D 6 p = .inr (C, q)) : cdep C 0 = some 1 ∧ ∀ c ∈ C, cOk (dT D) c := by
  have a := GD.exp (B := B) (n := n) (D := D) h8 6 _ _ _ h
  refine ⟨?_, a.1⟩
  have b := a.2 0 [] (by decide)
  rw [List.append_nil] at b
  rw [b]
  rfl
end
