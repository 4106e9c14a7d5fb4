/-! ===== a text, pure: its clauses ===== -/
section
variable (B : Nat → Nat) (n : Nat) (D : tD)
def nameAt (p : Nat) : xT := if xK B n p = 1 ∧ xE B n p - xS B n p = 1 then (match xNm D (B (xS B n p)) (dT D) 0 with
  | none => .inl (xE B n p)
  | some _ => .inr (5, xS B n p)) else .inr (1, xS B n p)
def tTh1 (p : Nat) : xT := xNW B n 7 (nameAt B n D (xE B n p))
def tTh2 (p : Nat) : xT := xNum B n 0 99 (tTh1 B n D p)
def tTh3 (p : Nat) : xT := if xIsW B n 8 (tTh2 B n D p) = true then xNum B n 1 99 (xAdv B n (tTh2 B n D p)) else tTh2 B n D p
def tThM (p : Nat) : Nat := if xIsW B n 8 (tTh2 B n D p) = true then xVs B n (xAdv B n (tTh2 B n D p)) else 0
def tThing (p : Nat) : xT × tD := if dT D = 8 then (.inr (2, xS B n p), D) else (tTh3 B n D p, d_T D (xVs B n (tTh1 B n D p)) (tThM B n D p) (B (xS B n (xE B n p))))
def tBo1 (p : Nat) : xT := xNW B n 9 (.inl (xE B n p))
def tBo2 (p : Nat) : xT := xNW B n 10 (xNum B n 1 8 (tBo1 B n p))
def tBo3 (p : Nat) : xT := xNW B n 11 (xNum B n 0 999 (tBo2 B n p))
def tBoat (p : Nat) : xT × tD := if dB D = 2 then (.inr (2, xS B n p), D) else (xSho B n (dS D) (-1) (tBo3 B n p), d_B D (xVs B n (tBo1 B n p)) (xVs B n (tBo2 B n p)) (xVs B n (tBo3 B n p)))
def tWa1 (p : Nat) : xT := xSho B n (dS D) (-1) (.inl (xE B n p))
def tWater (both : Bool) (p : Nat) : xT × tD := (xSho B n (dS D) (xV B n (xE B n p) : Int) (tWa1 B n D p), d_W D (w_add (dWa D) (xV B n (xE B n p)) (xVs B n (tWa1 B n D p)) both))
def tLa1 (p : Nat) : xT := xNW B n 11 (.inl (xE B n p))
def tLamp (p : Nat) : xT × tD := if dLamp D = -1 then (xSho B n (dS D) (-1) (tLa1 B n p), d_La D (xVs B n (tLa1 B n p))) else (.inr (5, xS B n p), D)
def tLw (p : Nat) : xT := pvS (gExp B n D 6) (.inl (xE B n p))
def tLwS (s : xT) : xT × Int := if xIsW B n 12 s = true then (xAdv B n s, -2) else if xIsW B n 13 s = true then (xAdv B n s, -3) else if xIsW B n 11 s = true then (xSho B n (dS D) (-1) (xAdv B n s), (xVs B n (xAdv B n s) : Int)) else (s, -1)
def tLaw (p : Nat) : xT × tD := if dL D = 12 then (.inr (2, xS B n p), D) else ((tLwS B n D (tLw B n D p)).1, d_L D (tLwS B n D (tLw B n D p)).2 (pvC (gExp B n D 6) (.inl (xE B n p))))
/-- a clause without its end -/
def tCla (w : Bool) (p : Nat) : xT × tD × Bool := if xW B n p 1 = true then ((tThing B n D p).1, (tThing B n D p).2, w) else if xW B n p 2 = true then ((tBoat B n D p).1, (tBoat B n D p).2, w) else if xW B n p 3 = true then ((tWater B n D true p).1, (tWater B n D true p).2, true) else if xW B n p 4 = true then ((tWater B n D false p).1, (tWater B n D false p).2, true) else if xW B n p 5 = true then ((tLamp B n D p).1, (tLamp B n D p).2, w) else if xW B n p 6 = true then ((tLaw B n D p).1, (tLaw B n D p).2, w) else (.inr (1, xS B n p), D, w)
end
abbrev pA : Type := xT × tD × Bool
def tCl (B : Nat → Nat) (n : Nat) (D : tD) (w : Bool) (p : Nat) : pA := (xNG B n 59 (tCla B n D w p).1, (tCla B n D w p).2)
/-- clauses, at most m -/
def tRun (B : Nat → Nat) (n m : Nat) (a : pA) : pA := match m with
  | 0 => a
  | k + 1 => match a.1 with
    | .inr _ => a
    | .inl p => if xK B n p = 0 then a else tRun B n k (tCl B n a.2.1 a.2.2 p)
def tHead (B : Nat → Nat) (n : Nat) : pA := if xW B n 0 0 = true then (xNG B n 59 (xNum B n 2 4 (.inl (xE B n 0))), d_S dIni (xV B n (xE B n 0)), false) else (.inl 0, dIni, false)
def tAll (B : Nat → Nat) (n : Nat) : pA := tRun B n 700 (tHead B n)
/-- what it tells -/
def tEnd (a : pA) : tD := if a.2.2 = true then a.2.1 else d_W a.2.1 w_all
section
variable {B : Nat → Nat} {n : Nat} {D : tD}
/-- a later place, or a fault -/
def aft1 (n p : Nat) (s : xT) : Prop := match s with
  | .inl q => p ≤ q ∧ q ≤ n
  | .inr e => (1 ≤ e.1 ∧ e.1 ≤ 5) ∧ e.2 ≤ n
theorem aft1.adv {p : Nat} {s : xT} (h : aft1 n p s) : aft1 n p (xAdv B n s) := by
  cases s with
  | inr e => exact h
  | inl q =>
    have h : p ≤ q ∧ q ≤ n := h
    have a := xS_r (B := B) h.2
    have b := xE_r (B := B) h.2
    exact ⟨by omega, b.2.1⟩
theorem aft1.fail {p f : Nat} {s : xT} (hf : 1 ≤ f ∧ f ≤ 5) (h : aft1 n p s) : aft1 n p (xFail B n f s) := by
  cases s with
  | inr e => exact h
  | inl q =>
    have h : p ≤ q ∧ q ≤ n := h
    have a := xS_r (B := B) h.2
    exact ⟨hf, a.2⟩
theorem aft1.nw {p k : Nat} {s : xT} (h : aft1 n p s) : aft1 n p (xNW B n k s) := by
  unfold xNW
  split
  · exact h.adv
  · exact h.fail (by decide)
theorem aft1.ng {p k : Nat} {s : xT} (h : aft1 n p s) : aft1 n p (xNG B n k s) := by
  unfold xNG
  split
  · exact h.adv
  · exact h.fail (by decide)
theorem aft1.num {p lo hi : Nat} {s : xT} (h : aft1 n p s) : aft1 n p (xNum B n lo hi s) := by
  cases s with
  | inr e => exact h
  | inl q =>
    have hq : p ≤ q ∧ q ≤ n := h
    have a := xS_r (B := B) hq.2
    have b := xE_r (B := B) hq.2
    by_cases c1 : xK B n q = 2
    · by_cases c2 : 3 < xE B n q - xS B n q ∨ xV B n q < lo ∨ hi < xV B n q
      · rw [xNum_2 c1 c2]; exact ⟨(by decide : 1 ≤ 2 ∧ 2 ≤ 5), a.2⟩
      · rw [xNum_3 c1 c2]; exact ⟨by omega, b.2.1⟩
    · rw [xNum_1 c1]; exact ⟨(by decide : 1 ≤ 1 ∧ 1 ≤ 5), a.2⟩
theorem aft1.sho {p S : Nat} {o : Int} {s : xT} (h : aft1 n p s) : aft1 n p (xSho B n S o s) := by
  cases s with
  | inr e => exact h
  | inl q =>
    have hq : p ≤ q ∧ q ≤ n := h
    have a := xS_r (B := B) hq.2
    have b := xE_r (B := B) hq.2
    rw [xSho_v]
    split
    · exact ⟨(by decide : 1 ≤ 1 ∧ 1 ≤ 5), a.2⟩
    · split
      · exact ⟨(by decide : 1 ≤ 2 ∧ 2 ≤ 5), a.2⟩
      · split
        · exact ⟨(by decide : 1 ≤ 4 ∧ 4 ≤ 5), a.2⟩
        · split
          · exact ⟨(by decide : 1 ≤ 5 ∧ 5 ≤ 5), a.2⟩
          · exact ⟨by omega, b.2.1⟩
theorem aft1.le {p p' : Nat} {s : xT} (h : aft1 n p s) (l : p' ≤ p) : aft1 n p' s := by
  cases s with
  | inr e => exact h
  | inl q => exact ⟨Nat.le_trans l h.1, h.2⟩
/-- a number that was taken -/
theorem xNum_i {lo hi q : Nat} {s : xT} (h : xNum B n lo hi s = .inl q) : lo ≤ xVs B n s ∧ xVs B n s ≤ hi := by
  cases s with
  | inr e => cases h
  | inl p =>
    by_cases c1 : xK B n p = 2
    · by_cases c2 : 3 < xE B n p - xS B n p ∨ xV B n p < lo ∨ hi < xV B n p
      · rw [xNum_2 c1 c2] at h; cases h
      · show lo ≤ xV B n p ∧ xV B n p ≤ hi
        omega
    · rw [xNum_1 c1] at h; cases h
theorem xSho_i {S q : Nat} {o : Int} {s : xT} (h : xSho B n S o s = .inl q) : xVs B n s < S ∧ ¬ (xVs B n s : Int) = o := by
  cases s with
  | inr e => cases h
  | inl p =>
    rw [xSho_v] at h
    show xV B n p < S ∧ ¬ (xV B n p : Int) = o
    by_cases c1 : xK B n p = 2
    · rw [if_neg (fun z => z c1)] at h
      by_cases c2 : 3 < xE B n p - xS B n p
      · rw [if_pos c2] at h; cases h
      · rw [if_neg c2] at h
        by_cases c3 : S ≤ xV B n p
        · rw [if_pos c3] at h; cases h
        · rw [if_neg c3] at h
          by_cases c4 : (xV B n p : Int) = o
          · rw [if_pos c4] at h; cases h
          · exact ⟨by omega, c4⟩
    · rw [if_pos c1] at h; cases h
theorem xNW_i {k q : Nat} {s : xT} (h : xNW B n k s = .inl q) : ∃ p, s = .inl p ∧ xW B n p k = true := by
  cases s with
  | inr e =>
    unfold xNW at h
    rw [if_neg (fun z => by cases z)] at h
    cases h
  | inl p =>
    refine ⟨p, rfl, ?_⟩
    unfold xNW at h
    by_cases c : xIsW B n k (.inl p) = true
    · exact c
    · rw [if_neg c] at h; cases h
theorem xNum_g {lo hi q : Nat} {s : xT} (h : xNum B n lo hi s = .inl q) : ∃ p, s = .inl p := by
  cases s with
  | inr e => cases h
  | inl p => exact ⟨p, rfl⟩
theorem xSho_g {S q : Nat} {o : Int} {s : xT} (h : xSho B n S o s = .inl q) : ∃ p, s = .inl p := by
  cases s with
  | inr e => cases h
  | inl p => exact ⟨p, rfl⟩
theorem nameAt_i {p q : Nat} (h : nameAt B n D p = .inl q) : (xK B n p = 1 ∧ xE B n p - xS B n p = 1) ∧ xNm D (B (xS B n p)) (dT D) 0 = none := by
  unfold nameAt at h
  by_cases c : xK B n p = 1 ∧ xE B n p - xS B n p = 1
  · rw [if_pos c] at h
    cases hm : xNm D (B (xS B n p)) (dT D) 0 with
    | none => exact ⟨c, rfl⟩
    | some i => rw [hm] at h; cases h
  · rw [if_neg c] at h; cases h
theorem tThing_ok {p q : Nat} (hp : p ≤ n) (hD : dOk D) (h : (tThing B n D p).1 = .inl q) : ¬ dT D = 8 ∧ dOk (tThing B n D p).2 ∧ (xVs B n (tTh1 B n D p) ≤ 99 ∧ tThM B n D p ≤ 99 ∧ B (xS B n (xE B n p)) ≤ 122) := by
  unfold tThing at h ⊢
  by_cases c : dT D = 8
  · rw [if_pos c] at h; cases h
  · rw [if_neg c] at h ⊢
    have h : tTh3 B n D p = .inl q := h
    have h2 : ∃ q2, tTh2 B n D p = .inl q2 ∧ tThM B n D p ≤ 99 := by
      unfold tTh3 at h
      unfold tThM
      by_cases c1 : xIsW B n 8 (tTh2 B n D p) = true
      · rw [if_pos c1] at h
        rw [if_pos c1]
        obtain ⟨q2, e2⟩ := xIsW_l c1
        exact ⟨q2, e2, (xNum_i h).2⟩
      · rw [if_neg c1] at h
        rw [if_neg c1]
        exact ⟨q, h, by omega⟩
    obtain ⟨q2, e2, hm⟩ := h2
    have hw := xNum_i e2
    obtain ⟨q1, e1⟩ := xNum_g e2
    obtain ⟨p1, e0, -⟩ := xNW_i e1
    have hn := nameAt_i e0
    have hE := (xE_r (B := B) hp).2.1
    have hlt := xK_lt (by rw [hn.1.1]; decide : ¬ xK B n (xE B n p) = 0)
    have hl := xK1_l hn.1.1 (Nat.le_refl _) ((xE_r (B := B) hE).2.2 hlt)
    have h8 := hD.2.1
    exact ⟨c, hD.T (by omega) hw.2 hm hl.2, hw.2, hm, hl.2⟩
theorem tBoat_ok {p q : Nat} (hD : dOk D) (h : (tBoat B n D p).1 = .inl q) : ¬ dB D = 2 ∧ dOk (tBoat B n D p).2 ∧ ((1 ≤ xVs B n (tBo1 B n p) ∧ xVs B n (tBo1 B n p) ≤ 8) ∧ xVs B n (tBo2 B n p) ≤ 999 ∧ xVs B n (tBo3 B n p) < dS D) := by
  unfold tBoat at h ⊢
  by_cases c : dB D = 2
  · rw [if_pos c] at h; cases h
  · rw [if_neg c] at h ⊢
    have h : xSho B n (dS D) (-1) (tBo3 B n p) = .inl q := h
    have h3 := xSho_i h
    obtain ⟨q3, e3⟩ := xSho_g h
    obtain ⟨q2, e2, -⟩ := xNW_i e3
    have h2 := xNum_i e2
    obtain ⟨q1, e1⟩ := xNum_g e2
    obtain ⟨q0, e0, -⟩ := xNW_i e1
    have h1 := xNum_i e0
    have h2b := hD.2.2.1
    exact ⟨c, hD.B (by omega) h1 h2.2 h3.1, h1, h2.2, h3.1⟩
theorem tWater_ok {p q : Nat} {both : Bool} (hD : dOk D) (h : (tWater B n D both p).1 = .inl q) : (∃ q1, tWa1 B n D p = .inl q1) ∧ dOk (tWater B n D both p).2 ∧ (xV B n (xE B n p) < dS D ∧ xVs B n (tWa1 B n D p) < dS D ∧ ¬ xV B n (xE B n p) = xVs B n (tWa1 B n D p)) := by
  have h : xSho B n (dS D) (xV B n (xE B n p) : Int) (tWa1 B n D p) = .inl q := h
  have h2 := xSho_i h
  obtain ⟨q1, e1⟩ := xSho_g h
  have h1 := xSho_i (s := .inl (xE B n p)) e1
  have h1 : xV B n (xE B n p) < dS D ∧ _ := h1
  have hs := hD.1
  exact ⟨⟨q1, e1⟩, hD.W (w_add_ok hD.2.2.2.2.2.2.2.1 (by omega) (by omega) (by omega)), h1.1, h2.1, by omega⟩
theorem tLamp_ok {p q : Nat} (hD : dOk D) (h : (tLamp B n D p).1 = .inl q) : dLamp D = -1 ∧ dOk (tLamp B n D p).2 ∧ xVs B n (tLa1 B n p) < dS D := by
  unfold tLamp at h ⊢
  by_cases c : dLamp D = -1
  · rw [if_pos c] at h ⊢
    have h : xSho B n (dS D) (-1) (tLa1 B n p) = .inl q := h
    exact ⟨c, hD.La (xSho_i h).1, (xSho_i h).1⟩
  · rw [if_neg c] at h; cases h
theorem tLwS_ok {s : xT} {q : Nat} (h : (tLwS B n D s).1 = .inl q) : (∃ p, s = .inl p ∧ (p ≤ n → p ≤ q ∧ q ≤ n)) ∧ ((tLwS B n D s).2 = -1 ∨ (tLwS B n D s).2 = -2 ∨ (tLwS B n D s).2 = -3 ∨ (0 ≤ (tLwS B n D s).2 ∧ (tLwS B n D s).2 < dS D)) := by
  have ad : ∀ k, xIsW B n k s = true → ∃ p, s = .inl p ∧ (p ≤ n → p ≤ xE B n p ∧ xE B n p ≤ n) := fun k z => by
    obtain ⟨p, e⟩ := xIsW_l z
    refine ⟨p, e, fun hp => ?_⟩
    have a := xS_r (B := B) hp
    have b := xE_r (B := B) hp
    omega
  unfold tLwS at h ⊢
  by_cases c1 : xIsW B n 12 s = true
  · rw [if_pos c1] at h ⊢
    obtain ⟨p, e, hp⟩ := ad _ c1
    subst e
    cases h
    exact ⟨⟨p, rfl, hp⟩, Or.inr (Or.inl rfl)⟩
  · rw [if_neg c1] at h ⊢
    by_cases c2 : xIsW B n 13 s = true
    · rw [if_pos c2] at h ⊢
      obtain ⟨p, e, hp⟩ := ad _ c2
      subst e
      cases h
      exact ⟨⟨p, rfl, hp⟩, Or.inr (Or.inr (Or.inl rfl))⟩
    · rw [if_neg c2] at h ⊢
      by_cases c3 : xIsW B n 11 s = true
      · rw [if_pos c3] at h ⊢
        obtain ⟨p, e, hp⟩ := ad _ c3
        subst e
        have h : xSho B n (dS D) (-1) (.inl (xE B n p)) = .inl q := h
        have hi := xSho_i h
        refine ⟨⟨p, rfl, fun hpn => ?_⟩, Or.inr (Or.inr (Or.inr ⟨(by show (0 : Int) ≤ (xV B n (xE B n p) : Int); omega), ?_⟩))⟩
        · have a := hp hpn
          have b := aft1.sho (B := B) (S := dS D) (o := -1) (p := p) (s := .inl (xE B n p)) a
          rw [h] at b
          exact b
        · have hi1 : xV B n (xE B n p) < dS D := hi.1
          show (xV B n (xE B n p) : Int) < dS D
          omega
      · rw [if_neg c3] at h ⊢
        have h : s = .inl q := h
        exact ⟨⟨q, h, fun hq => ⟨Nat.le_refl _, hq⟩⟩, Or.inl rfl⟩
theorem tLaw_ok {p q : Nat} (hD : dOk D) (h : (tLaw B n D p).1 = .inl q) : ¬ dL D = 12 ∧ dOk (tLaw B n D p).2 ∧ ∃ C q1, gExp B n D 6 (xE B n p) = .inr (C, q1) ∧ tLw B n D p = .inl q1 ∧ (q1 ≤ n → q1 ≤ q ∧ q ≤ n) ∧ pvC (gExp B n D 6) (.inl (xE B n p)) = C := by
  unfold tLaw at h ⊢
  by_cases c : dL D = 12
  · rw [if_pos c] at h; cases h
  · rw [if_neg c] at h ⊢
    have h : (tLwS B n D (tLw B n D p)).1 = .inl q := h
    have a := tLwS_ok h
    obtain ⟨⟨q1, e1, hq1⟩, hs⟩ := a
    cases hg : gExp B n D 6 (xE B n p) with
    | inl e =>
      have z : tLw B n D p = .inr e := (pvS_n hg).1
      rw [z] at e1
      cases e1
    | inr r =>
      obtain ⟨C, q2⟩ := r
      have z := pvS_y hg
      have z1 : tLw B n D p = .inl q2 := z.1
      rw [z1] at e1
      cases e1
      have hc := gExp_ok hD.2.1 hg
      have hl := hD.2.2.2.1
      refine ⟨c, ?_, C, q1, rfl, z1, hq1, z.2⟩
      show dOk (d_L D _ (pvC (gExp B n D 6) (.inl (xE B n p))))
      rw [z.2]
      exact hD.L (by omega) hs hc.1 hc.2
end
