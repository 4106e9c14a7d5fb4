/-! ===== the reference: the crossings of one boat to one shore ===== -/
/-- the laws that bar when law w is left out -/
def acts (D : tD) (w : Int) : Nat := ndiff (2 ^ dL D - 1) (if w = -1 then 0 else 2 ^ w.toNat)
theorem kp_act {D : tD} {w : Int} {v : Nat} (hv : v < 2 ^ dL D) : kp w v = v &&& acts D w := by
  apply Nat.eq_of_testBit_eq
  intro i
  have hb : v.testBit i = true → i < dL D := fun h => by
    by_cases q : i < dL D
    · exact q
    · have e : v.testBit i = false := Nat.testBit_lt_two_pow (Nat.lt_of_lt_of_le hv (Nat.pow_le_pow_right (n := 2) (by omega) (by omega)))
      rw [e] at h
      cases h
  unfold acts kp
  rw [Nat.testBit_and, ndiff_bit, Nat.testBit_two_pow_sub_one]
  by_cases hw : w = -1
  · rw [if_pos hw, if_pos hw, Nat.zero_testBit]
    cases hq : v.testBit i
    · rfl
    · rw [decide_eq_true (hb hq)]; rfl
  · rw [if_neg hw, if_neg hw, ndiff_bit]
    cases hq : v.testBit i
    · rfl
    · rw [decide_eq_true (hb hq)]; rfl
theorem dBars_l {D : tD} (S p q l : Nat) : dBars D S p q l < 2 ^ dL D := by
  unfold dBars
  split
  · exact Nat.two_pow_pos _
  · exact msk_lt _ _
theorem fnd_SR {X Y : Nat → Nat} {n s r : Nat} (h : ∀ k, k < n → SR (Y k) (X k) ∧ Y k < 4194304) (hs : SR s r) (hl : s < 4194304) : fnd X n r = fnd Y n s := by
  induction n with
  | zero => rfl
  | succ k ih =>
    unfold fnd
    rw [ih (fun i hi => h i (by omega))]
    cases fnd Y k s with
    | some i => rfl
    | none =>
      dsimp only
      have hk := h k (by omega)
      by_cases e : Y k = s
      · rw [if_pos e, if_pos]
        rw [e] at hk
        exact SR_fun hk.1 hs
      · rw [if_neg e, if_neg]
        intro e2
        rw [e2] at hk
        exact e (SR_inj hk.2 hl hk.1 hs)
/-- what the reference's graph writes -/
def FH (I I' : Nat → Nat → Int) : Prop := (∀ a, ¬ a = 1835 → ¬ a = 2676 → ¬ a = 2804 → ¬ a = 2740 → ¬ a = 2836 → ¬ a = 2868 → ¬ a = 2900 → ¬ a = 2932 → I' a = I a) ∧ ∀ k, ¬ k = 54 → ¬ k = 55 → ¬ k = 66 → I' 1835 k = I 1835 k
def FG (I I' : Nat → Nat → Int) : Prop := (∀ a, ¬ a = 2612 → ¬ a = 2644 → ¬ a = 1835 → ¬ a = 2676 → ¬ a = 2804 → ¬ a = 2740 → ¬ a = 2836 → ¬ a = 2868 → ¬ a = 2900 → ¬ a = 2932 → I' a = I a) ∧ ∀ k, ¬ k = 54 → ¬ k = 55 → ¬ k = 66 → I' 1835 k = I 1835 k
theorem FG.rf (I : Nat → Nat → Int) : FG I I := ⟨fun _ _ _ _ _ _ _ _ _ _ _ => rfl, fun _ _ _ _ => rfl⟩
theorem FG.tr {I I1 I2 : Nat → Nat → Int} (h : FG I I1) (h' : FG I1 I2) : FG I I2 := ⟨fun a h1 h2 h3 h4 h5 h6 h7 h8 h9 h10 => (h'.1 a h1 h2 h3 h4 h5 h6 h7 h8 h9 h10).trans (h.1 a h1 h2 h3 h4 h5 h6 h7 h8 h9 h10), fun k h1 h2 h3 => (h'.2 k h1 h2 h3).trans (h.2 k h1 h2 h3)⟩
theorem FG.fh {I I' : Nat → Nat → Int} (h : FH I I') : FG I I' := ⟨fun a _ _ h3 h4 h5 h6 h7 h8 h9 h10 => h.1 a h3 h4 h5 h6 h7 h8 h9 h10, h.2⟩
theorem FG.fr {I I' : Nat → Nat → Int} (h : FR I I') : FG I I' := ⟨fun a h1 h2 _ _ _ _ _ _ _ _ => h a h1 h2, fun k _ _ _ => by rw [h 1835 (by decide) (by decide)]⟩
theorem RV.fh {I I' : Nat → Nat → Int} {D : tD} {ho lo : Nat} (h : RV I D ho lo) (hf : FH I I') : RV I' D ho lo := by
  refine ⟨h.1.fr (fun k hk => hf.2 k (by omega) (by omega) (by omega)) (fun a ha => hf.1 a (by omega) (by omega) (by omega) (by omega) (by omega) (by omega) (by omega) (by omega)), fun S p q l z1 z2 z3 z4 z5 => ?_, h.2.2⟩
  rw [hf.1 2612 (by decide) (by decide) (by decide) (by decide) (by decide) (by decide) (by decide) (by decide)]
  exact h.2.1 S p q l z1 z2 z3 z4 z5
/-- the reference's memory holds the graph g -/
def RG (I : Nat → Nat → Int) (g : gS) : Prop := I 1835 66 = 0 ∧ I 1835 55 = gM g ∧ (∃ X T, RS I (gN g) X T ∧ ∀ k, k < gN g → SR (gX g k) (X k)) ∧ (∀ k, k < gN g → I 2740 k = gDp g k) ∧ ∀ e, e < gM g → I 2836 e = (gE g e).1 ∧ I 2868 e = (gE g e).2.1 ∧ I 2900 e = (gE g e).2.2.1 ∧ I 2932 e = (gE g e).2.2.2
def RC (I : Nat → Nat → Int) (g : gS) : Prop := (gSp g = true ∧ I 1835 66 = 1 ∧ 0 ≤ I 1835 54 ∧ I 1835 54 ≤ 2000) ∨ (gSp g = false ∧ RG I g)
theorem RS.to {I I' : Nat → Nat → Int} {n : Nat} {X T : Nat → Nat} (h : RS I n X T) (h1 : I' 1835 54 = I 1835 54) (h2 : I' 2676 = I 2676) (h3 : I' 2804 = I 2804) : RS I' n X T := ⟨h.1, by rw [h1]; exact h.2.1, fun k hk => by rw [h2]; exact h.2.2.1 k hk, fun i hi => by rw [h3]; exact h.2.2.2.1 i hi, h.2.2.2.2⟩
theorem RG.fr {I I' : Nat → Nat → Int} {g : gS} (h : RG I g) (hf : FR I I') : RG I' g := by
  obtain ⟨h1, h2, ⟨X, T, h3, h4⟩, h5, h6⟩ := h
  have e := hf 1835 (by decide) (by decide)
  refine ⟨by rw [e]; exact h1, by rw [e]; exact h2, ⟨X, T, h3.to (by rw [e]) (hf 2676 (by decide) (by decide)) (hf 2804 (by decide) (by decide)), h4⟩, fun k hk => ?_, fun k hk => ?_⟩
  · rw [hf 2740 (by decide) (by decide)]; exact h5 k hk
  · rw [hf 2836 (by decide) (by decide), hf 2868 (by decide) (by decide), hf 2900 (by decide) (by decide), hf 2932 (by decide) (by decide)]
    exact h6 k hk
/-- between two sets -/
def BC (I0 : Nat → Nat → Int) (D : tD) (ho lo act k s : Nat) (I : Nat → Nat → Int) (g : gS) : Prop := FG I0 I ∧ RV I D ho lo ∧ RC I g ∧ gOk D act g ∧ k < gN g ∧ gX g k = s
theorem RG.e {I I' : Nat → Nat → Int} {g : gS} {b p S j : Nat} (h : RG I g) (hI : I' = z_u (z_u (z_u (z_u (z_u I 2836 (gM g) (b : Int)) 2868 (gM g) (p : Int)) 2900 (gM g) (S : Int)) 2932 (gM g) (j : Int)) 1835 55 ((gM g : Int) + 1)) : FH I I' ∧ RG I' (g_e g (b, p, S, j)) := by
  obtain ⟨h1, h2, ⟨X, T, h3, h4⟩, h5, h6⟩ := h
  have r0 : ∀ a, ¬ a = 1835 → ¬ a = 2836 → ¬ a = 2868 → ¬ a = 2900 → ¬ a = 2932 → I' a = I a := fun a z1 z2 z3 z4 z5 => by rw [hI, zu_ne z1, zu_ne z5, zu_ne z4, zu_ne z3, zu_ne z2]
  have r1 : ∀ k, ¬ k = 55 → I' 1835 k = I 1835 k := fun k hk => by rw [hI, zu_nk hk, zu_ne (by decide : ¬ 1835 = 2932), zu_ne (by decide : ¬ 1835 = 2900), zu_ne (by decide : ¬ 1835 = 2868), zu_ne (by decide : ¬ 1835 = 2836)]
  refine ⟨⟨fun a z1 z2 z3 z4 z5 z6 z7 z8 => r0 a z1 z5 z6 z7 z8, fun k z1 z2 z3 => r1 k z2⟩, by rw [r1 66 (by decide)]; exact h1, ?_, ⟨X, T, h3.to (r1 54 (by decide)) (r0 2676 (by decide) (by decide) (by decide) (by decide) (by decide)) (r0 2804 (by decide) (by decide) (by decide) (by decide) (by decide)), h4⟩, fun k hk => ?_, fun e he => ?_⟩
  · show I' 1835 55 = ((gM g + 1 : Nat) : Int)
    rw [hI, zu_same]
    omega
  · rw [r0 2740 (by decide) (by decide) (by decide) (by decide) (by decide)]; exact h5 k hk
  · have he : e < gM g + 1 := he
    show I' 2836 e = (((upN (gE g) (gM g) (b, p, S, j)) e).1 : Int) ∧ I' 2868 e = (((upN (gE g) (gM g) (b, p, S, j)) e).2.1 : Int) ∧ I' 2900 e = (((upN (gE g) (gM g) (b, p, S, j)) e).2.2.1 : Int) ∧ I' 2932 e = (((upN (gE g) (gM g) (b, p, S, j)) e).2.2.2 : Int)
    rw [hI]
    have q1 : ∀ v : Int, z_u (z_u (z_u (z_u (z_u I 2836 (gM g) (b : Int)) 2868 (gM g) (p : Int)) 2900 (gM g) (S : Int)) 2932 (gM g) (j : Int)) 1835 55 v 2836 e = if e = gM g then (b : Int) else I 2836 e := fun v => by rw [zu_ne (by decide : ¬ 2836 = 1835), zu_ne (by decide : ¬ 2836 = 2932), zu_ne (by decide : ¬ 2836 = 2900), zu_ne (by decide : ¬ 2836 = 2868), zu_at]
    have q2 : ∀ v : Int, z_u (z_u (z_u (z_u (z_u I 2836 (gM g) (b : Int)) 2868 (gM g) (p : Int)) 2900 (gM g) (S : Int)) 2932 (gM g) (j : Int)) 1835 55 v 2868 e = if e = gM g then (p : Int) else I 2868 e := fun v => by rw [zu_ne (by decide : ¬ 2868 = 1835), zu_ne (by decide : ¬ 2868 = 2932), zu_ne (by decide : ¬ 2868 = 2900), zu_at, zu_ne (by decide : ¬ 2868 = 2836)]
    have q3 : ∀ v : Int, z_u (z_u (z_u (z_u (z_u I 2836 (gM g) (b : Int)) 2868 (gM g) (p : Int)) 2900 (gM g) (S : Int)) 2932 (gM g) (j : Int)) 1835 55 v 2900 e = if e = gM g then (S : Int) else I 2900 e := fun v => by rw [zu_ne (by decide : ¬ 2900 = 1835), zu_ne (by decide : ¬ 2900 = 2932), zu_at, zu_ne (by decide : ¬ 2900 = 2868), zu_ne (by decide : ¬ 2900 = 2836)]
    have q4 : ∀ v : Int, z_u (z_u (z_u (z_u (z_u I 2836 (gM g) (b : Int)) 2868 (gM g) (p : Int)) 2900 (gM g) (S : Int)) 2932 (gM g) (j : Int)) 1835 55 v 2932 e = if e = gM g then (j : Int) else I 2932 e := fun v => by rw [zu_ne (by decide : ¬ 2932 = 1835), zu_at, zu_ne (by decide : ¬ 2932 = 2900), zu_ne (by decide : ¬ 2932 = 2868), zu_ne (by decide : ¬ 2932 = 2836)]
    rw [q1, q2, q3, q4]
    by_cases q : e = gM g
    · rw [if_pos q, if_pos q, if_pos q, if_pos q, q, upN_at]
      exact ⟨rfl, rfl, rfl, rfl⟩
    · rw [if_neg q, if_neg q, if_neg q, if_neg q, upN_ne q]
      exact h6 e (by omega)
