/-! ===== expressions, pure ===== -/
abbrev pX : Type := (Nat × Nat) ⊕ (List Int × Nat)
theorem xE_gt {B : Nat → Nat} {n p : Nat} (h : p ≤ n) (hk : ¬ xK B n p = 0) : p + 1 ≤ xE B n p ∧ xE B n p ≤ n := by
  have a := xS_r (B := B) h
  have b := xE_r (B := B) h
  have c := xK_lt hk
  have d := b.2.2 c
  omega
def xOp (B : Nat → Nat) (n L p : Nat) : Option Int :=
  if L = 0 then (if xW B n p 15 = true then some 1200 else none)
  else if L = 1 then (if xW B n p 14 = true then some 1201 else none)
  else if L = 2 then (if xIsG B n 60 (.inl p) = true then some 1202 else if xIsG B n 61 (.inl p) = true then some 1203 else none)
  else if L = 3 then (if xIsG B n 43 (.inl p) = true then some 1204 else if xIsG B n 45 (.inl p) = true then some 1205 else none)
  else (if xIsG B n 42 (.inl p) = true then some 1206 else if xIsG B n 47 (.inl p) = true then some 1207 else none)
theorem xW_k {B : Nat → Nat} {n p k : Nat} (h : xW B n p k = true) : ¬ xK B n p = 0 := by rw [(xW_iff.1 h).1]; decide
theorem xIsG_k {B : Nat → Nat} {n p c : Nat} (h : xIsG B n c (.inl p) = true) : ¬ xK B n p = 0 := by
  rw [xIsG_v, decide_eq_true_iff] at h
  rw [h.1]; decide
theorem xOp_k {B : Nat → Nat} {n L p : Nat} {o : Int} (h : xOp B n L p = some o) : ¬ xK B n p = 0 ∧ 1200 ≤ o ∧ o ≤ 1207 := by
  unfold xOp at h
  split at h
  · split at h
    · rename_i z; cases h; exact ⟨xW_k z, by decide, by decide⟩
    · cases h
  · split at h
    · split at h
      · rename_i z; cases h; exact ⟨xW_k z, by decide, by decide⟩
      · cases h
    · split at h
      · split at h
        · rename_i z; cases h; exact ⟨xIsG_k z, by decide, by decide⟩
        · split at h
          · rename_i z; cases h; exact ⟨xIsG_k z, by decide, by decide⟩
          · cases h
      · split at h
        · split at h
          · rename_i z; cases h; exact ⟨xIsG_k z, by decide, by decide⟩
          · split at h
            · rename_i z; cases h; exact ⟨xIsG_k z, by decide, by decide⟩
            · cases h
        · split at h
          · rename_i z; cases h; exact ⟨xIsG_k z, by decide, by decide⟩
          · split at h
            · rename_i z; cases h; exact ⟨xIsG_k z, by decide, by decide⟩
            · cases h
def gRow (B : Nat → Nat) (n : Nat) (sub : Nat → pX) (L m p : Nat) (C : List Int) : pX := match m with
  | 0 => .inr (C, p)
  | k + 1 => match xOp B n L p with
    | none => .inr (C, p)
    | some o => match sub (xE B n p) with
      | .inl e => .inl e
      | .inr r => gRow B n sub L k r.2 (C ++ r.1 ++ [o])
def gLvl (B : Nat → Nat) (n : Nat) (sub : Nat → pX) (L p : Nat) : pX := match sub p with
  | .inl e => .inl e
  | .inr r => gRow B n sub L 700 r.2 r.1
def gNs (B : Nat → Nat) (n m p : Nat) : Nat × Nat := match m with
  | 0 => (0, p)
  | k + 1 => if xW B n p 16 = true then ((gNs B n k (xE B n p)).1 + 1, (gNs B n k (xE B n p)).2) else (0, p)
def gTst (B : Nat → Nat) (n : Nat) (sum : Nat → pX) (p : Nat) : pX := match sum p with
  | .inl e => .inl e
  | .inr r => match xOp B n 2 r.2 with
    | none => .inr r
    | some o => match sum (xE B n r.2) with
      | .inl e => .inl e
      | .inr r2 => .inr (r.1 ++ r2.1 ++ [o], r2.2)
def gNot (B : Nat → Nat) (n : Nat) (sum : Nat → pX) (p : Nat) : pX :=
  if (gNs B n 6 p).1 = 6 ∧ xW B n (gNs B n 6 p).2 16 = true then .inl (2, xS B n (gNs B n 6 p).2)
  else match gTst B n sum (gNs B n 6 p).2 with
    | .inl e => .inl e
    | .inr r => .inr (r.1 ++ List.replicate (gNs B n 6 p).1 1208, r.2)
/-- the thing of a letter -/
def xNm (D : tD) (c m t : Nat) : Option Nat := match m with
  | 0 => none
  | k + 1 => if dLe D t = c then some t else xNm D c k (t + 1)
def gMs (B : Nat → Nat) (n p : Nat) : Option Int := if xW B n p 17 = true then some 1100 else if xW B n p 7 = true then some 1101 else if xW B n p 18 = true then some 1102 else if xW B n p 19 = true then some 1103 else if xW B n p 5 = true then some 1104 else if xW B n p 20 = true then some 1105 else none
def gPart (B : Nat → Nat) (n : Nat) (D : tD) (nst : Nat → pX) (p : Nat) : pX :=
  if xK B n p = 2 then (if 3 < xE B n p - xS B n p then .inl (2, xS B n p) else .inr ([(xV B n p : Int)], xE B n p))
  else if xK B n p = 1 ∧ xE B n p - xS B n p = 1 then (match xNm D (B (xS B n p)) (dT D) 0 with
    | none => .inl (4, xS B n p)
    | some t => .inr ([((1000 + t : Nat) : Int)], xE B n p))
  else if xK B n p = 1 then (match gMs B n p with
    | none => .inl (3, xS B n p)
    | some c => .inr ([c], xE B n p))
  else if xIsG B n 40 (.inl p) = true then (match nst (xE B n p) with
    | .inl e => .inl e
    | .inr r => if xIsG B n 41 (.inl r.2) = true then .inr (r.1, xE B n r.2) else .inl (1, xS B n r.2))
  else .inl (1, xS B n p)
def gOr (B : Nat → Nat) (n : Nat) (D : tD) (nst : Nat → pX) : Nat → pX := gLvl B n (gLvl B n (gNot B n (gLvl B n (gLvl B n (gPart B n D nst) 4) 3)) 1) 0
def gExp (B : Nat → Nat) (n : Nat) (D : tD) (m p : Nat) : pX := match m with
  | 0 => .inl (if xK B n p = 2 ∨ xK B n p = 1 ∨ xIsG B n 40 (.inl p) = true then 2 else 1, xS B n p)
  | k + 1 => gOr B n D (gExp B n D k) p
/-- what is read is no longer than what it is read from -/
def GL (n : Nat) (g : Nat → pX) : Prop := ∀ p C q, p ≤ n → g p = .inr (C, q) → p + C.length ≤ q ∧ q ≤ n
section
variable {B : Nat → Nat} {n : Nat}
theorem GL.row {sub : Nat → pX} (h : GL n sub) (L : Nat) : ∀ (m p : Nat) (C C' : List Int) (q p0 : Nat), p ≤ n → p0 + C.length ≤ p → gRow B n sub L m p C = .inr (C', q) → p0 + C'.length ≤ q ∧ q ≤ n := by
  intro m
  induction m with
  | zero =>
    intro p C C' q p0 hp hc e
    have e : (Sum.inr (C, p) : pX) = .inr (C', q) := e
    cases e
    exact ⟨hc, hp⟩
  | succ k ih =>
    intro p C C' q p0 hp hc e
    unfold gRow at e
    cases ho : xOp B n L p with
    | none =>
      rw [ho] at e
      have e : (Sum.inr (C, p) : pX) = .inr (C', q) := e
      cases e
      exact ⟨hc, hp⟩
    | some o =>
      rw [ho] at e
      have hk := xE_gt hp (xOp_k ho).1
      cases hs : sub (xE B n p) with
      | inl e' =>
        simp only [hs] at e
        cases e
      | inr r =>
        simp only [hs] at e
        obtain ⟨C2, q2⟩ := r
        have := h _ _ _ hk.2 hs
        refine ih q2 _ C' q p0 this.2 ?_ e
        rw [List.length_append, List.length_append]
        show p0 + (C.length + C2.length + 1) ≤ q2
        omega
theorem GL.lvl {sub : Nat → pX} (h : GL n sub) (L : Nat) : GL n (gLvl B n sub L) := by
  intro p C q hp e
  unfold gLvl at e
  cases hs : sub p with
  | inl e' => rw [hs] at e; cases e
  | inr r =>
    rw [hs] at e
    obtain ⟨C2, q2⟩ := r
    have := h _ _ _ hp hs
    exact h.row L 700 q2 C2 C q p this.2 this.1 e
theorem gNs_r : ∀ (m p : Nat), p ≤ n → p + (gNs B n m p).1 ≤ (gNs B n m p).2 ∧ (gNs B n m p).2 ≤ n ∧ (gNs B n m p).1 ≤ m := by
  intro m
  induction m with
  | zero => intro p hp; exact ⟨Nat.le_refl _, hp, Nat.le_refl _⟩
  | succ k ih =>
    intro p hp
    unfold gNs
    by_cases c : xW B n p 16 = true
    · rw [if_pos c]
      have a := xE_gt hp (xW_k c)
      have b := ih (xE B n p) a.2
      refine ⟨?_, b.2.1, ?_⟩
      · show p + ((gNs B n k (xE B n p)).1 + 1) ≤ (gNs B n k (xE B n p)).2
        omega
      · show (gNs B n k (xE B n p)).1 + 1 ≤ k + 1
        omega
    · rw [if_neg c]
      exact ⟨Nat.le_refl _, hp, Nat.zero_le _⟩
theorem GL.tst {sum : Nat → pX} (h : GL n sum) : GL n (gTst B n sum) := by
  intro p C q hp e
  unfold gTst at e
  cases hs : sum p with
  | inl e' => rw [hs] at e; cases e
  | inr r =>
    rw [hs] at e
    obtain ⟨C2, q2⟩ := r
    have a := h _ _ _ hp hs
    cases ho : xOp B n 2 q2 with
    | none =>
      simp only [ho] at e
      cases e
      exact a
    | some o =>
      simp only [ho] at e
      have hk := xE_gt a.2 (xOp_k ho).1
      cases hs2 : sum (xE B n q2) with
      | inl e' => simp only [hs2] at e; cases e
      | inr r2 =>
        simp only [hs2] at e
        obtain ⟨C3, q3⟩ := r2
        cases e
        have b := h _ _ _ hk.2 hs2
        refine ⟨?_, b.2⟩
        rw [List.length_append, List.length_append]
        show p + (C2.length + C3.length + 1) ≤ q3
        omega
theorem GL.not {sum : Nat → pX} (h : GL n sum) : GL n (gNot B n sum) := by
  intro p C q hp e
  have hr := gNs_r (B := B) 6 p hp
  unfold gNot at e
  by_cases c : (gNs B n 6 p).1 = 6 ∧ xW B n (gNs B n 6 p).2 16 = true
  · rw [if_pos c] at e; cases e
  · rw [if_neg c] at e
    cases hs : gTst B n sum (gNs B n 6 p).2 with
    | inl e' => rw [hs] at e; cases e
    | inr r =>
      rw [hs] at e
      obtain ⟨C2, q2⟩ := r
      cases e
      have a := h.tst (B := B) _ _ _ hr.2.1 hs
      refine ⟨?_, a.2⟩
      rw [List.length_append, List.length_replicate]
      show p + (C2.length + (gNs B n 6 p).1) ≤ q2
      omega
theorem GL.part {D : tD} {nst : Nat → pX} (h : GL n nst) : GL n (gPart B n D nst) := by
  intro p C q hp e
  unfold gPart at e
  by_cases c1 : xK B n p = 2
  · rw [if_pos c1] at e
    have a := xE_gt hp (by rw [c1]; decide : ¬ xK B n p = 0)
    by_cases c2 : 3 < xE B n p - xS B n p
    · rw [if_pos c2] at e; cases e
    · rw [if_neg c2] at e
      cases e
      exact a
  · rw [if_neg c1] at e
    by_cases c2 : xK B n p = 1 ∧ xE B n p - xS B n p = 1
    · rw [if_pos c2] at e
      have a := xE_gt hp (by rw [c2.1]; decide : ¬ xK B n p = 0)
      cases hm : xNm D (B (xS B n p)) (dT D) 0 with
      | none => rw [hm] at e; cases e
      | some t =>
        rw [hm] at e
        cases e
        exact a
    · rw [if_neg c2] at e
      by_cases c3 : xK B n p = 1
      · rw [if_pos c3] at e
        have a := xE_gt hp (by rw [c3]; decide : ¬ xK B n p = 0)
        cases hm : gMs B n p with
        | none => rw [hm] at e; cases e
        | some t =>
          rw [hm] at e
          cases e
          exact a
      · rw [if_neg c3] at e
        by_cases c4 : xIsG B n 40 (.inl p) = true
        · rw [if_pos c4] at e
          have a := xE_gt hp (xIsG_k c4)
          cases hs : nst (xE B n p) with
          | inl e' => rw [hs] at e; cases e
          | inr r =>
            rw [hs] at e
            obtain ⟨C2, q2⟩ := r
            have b := h _ _ _ a.2 hs
            by_cases c5 : xIsG B n 41 (.inl q2) = true
            · simp only [if_pos c5] at e
              cases e
              have g := xE_gt b.2 (xIsG_k c5)
              exact ⟨by omega, g.2⟩
            · simp only [if_neg c5] at e
              cases e
        · rw [if_neg c4] at e; cases e
theorem GL.or {D : tD} {nst : Nat → pX} (h : GL n nst) : GL n (gOr B n D nst) := ((((h.part.lvl 4).lvl 3).not).lvl 1).lvl 0
theorem GL.exp {D : tD} : ∀ m : Nat, GL n (gExp B n D m) := by
  intro m
  induction m with
  | zero =>
    intro p C q hp e
    unfold gExp at e
    cases e
  | succ k ih => exact ih.or
end
