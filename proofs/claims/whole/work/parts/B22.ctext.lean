/-! ===== a text, the class: Rules.begin, Play.begin, beginText, text ===== -/
theorem sm_cg {w : Nat → Nat} {S S' : Nat} : ∀ k, (∀ j, j < k → S.testBit j = S'.testBit j) → sm k w S = sm k w S' := by
  intro k
  induction k with
  | zero => intro _; rfl
  | succ k ih =>
    intro h
    show sm k w S + (if S.testBit k then w k else 0) = sm k w S' + (if S'.testBit k then w k else 0)
    rw [ih (fun j hj => h j (by omega)), h k (by omega)]
theorem mx_cg {w : Nat → Nat} {S S' : Nat} : ∀ k, (∀ j, j < k → S.testBit j = S'.testBit j) → mx k w S = mx k w S' := by
  intro k
  induction k with
  | zero => intro _; rfl
  | succ k ih =>
    intro h
    show max (mx k w S) (if S.testBit k then w k else 0) = max (mx k w S') (if S'.testBit k then w k else 0)
    rw [ih (fun j hj => h j (by omega)), h k (by omega)]
theorem sm_add {w : Nat → Nat} {k S : Nat} (hS : S < 2 ^ k) : sm (k + 1) w (2 ^ k + S) = sm k w S + w k := by
  have b : S.testBit k = false := Nat.testBit_lt_two_pow hS
  show sm k w (2 ^ k + S) + (if (2 ^ k + S).testBit k then w k else 0) = _
  rw [Nat.testBit_two_pow_add_eq, b, sm_cg k (fun j hj => Nat.testBit_two_pow_add_gt hj S)]
  rfl
theorem mx_add {w : Nat → Nat} {k S : Nat} (hS : S < 2 ^ k) : mx (k + 1) w (2 ^ k + S) = max (mx k w S) (w k) := by
  have b : S.testBit k = false := Nat.testBit_lt_two_pow hS
  show max (mx k w (2 ^ k + S)) (if (2 ^ k + S).testBit k then w k else 0) = _
  rw [Nat.testBit_two_pow_add_eq, b, mx_cg k (fun j hj => Nat.testBit_two_pow_add_gt hj S)]
  rfl
theorem sm_old {w : Nat → Nat} {k S : Nat} (hS : S < 2 ^ k) : sm (k + 1) w S = sm k w S := by
  have b : S.testBit k = false := Nat.testBit_lt_two_pow hS
  show sm k w S + (if S.testBit k then w k else 0) = _
  rw [b]
  rfl
theorem mx_old {w : Nat → Nat} {k S : Nat} (hS : S < 2 ^ k) : mx (k + 1) w S = mx k w S := by
  have b : S.testBit k = false := Nat.testBit_lt_two_pow hS
  show max (mx k w S) (if S.testBit k then w k else 0) = _
  rw [b]
  exact Nat.max_eq_left (Nat.zero_le _)
/-- the rows of the sets of the first i things -/
def RWi (I : Nat → Nat → Int) (D : tD) (i : Nat) : Prop := ∀ S, S < 2 ^ i → I 916 S = sm i (fun _ => 1) S ∧ I 948 S = sm i (dRo D) S ∧ I 980 S = sm i (dWt D) S ∧ I 1012 S = mx i (dMi D) S
def cF4 (I I' : Nat → Nat → Int) : Prop := ∀ a, ¬ a = 916 → ¬ a = 948 → ¬ a = 980 → ¬ a = 1012 → I' a = I a
section
variable {sc : mS} {d : Nat} {t : zT} {I J I' J' : Nat → Nat → Int} {Q : zR → zW → Prop} {B : Nat → Nat} {n : Nat} {D : tD}
theorem k14 {x1 : Int} {i : Nat} (e1 : x1 = i) (hC : CD (t_rb t) I D) (hD : dOk D) (hi : i < dT D) (hW : RWi I D i) (hq : ∀ (I' : Nat → Nat → Int), cF4 I I' → RWi I' D (i + 1) → Q (.inl none) (z_cfg t, I', J)) : Go sc d mt_14 0 [vr 839, vi x1, vn, vn, vn] [] (z_cfg t, I, J) Q := by
  subst e1
  have h8 := hD.2.1
  have hrow := hC.2.2.2.2.2.1 i hi
  have hlim := hD.2.2.2.2.2.1 i hi
  have hp : 2 ^ i ≤ 2 ^ 7 := Nat.pow_le_pow_right (by omega) (by omega)
  have esh : zshl 1 (i : Int) = ((2 ^ i : Nat) : Int) := by
    have e : zshl 1 (i : Int) = ((1 * 2 ^ i : Nat) : Int) := zshl_n (x := 1) (by omega) (by omega)
    rw [Nat.one_mul] at e
    exact e
  have fm : ∀ (I1 : Nat → Nat → Int) (k : Nat), cF4 I I1 → I1 (z_mf (t_rb t) k) = I (z_mf (t_rb t) k) := fun I1 k f => f _ (by have := zmf_lt (t_rb t) k; omega) (by have := zmf_lt (t_rb t) k; omega) (by have := zmf_lt (t_rb t) k; omega) (by have := zmf_lt (t_rb t) k; omega)
  have lp : ∀ (m S : Nat) (I1 : Nat → Nat → Int), S + m = 2 ^ i → cF4 I I1 → (∀ T, T < 2 ^ i + S → I1 916 T = sm (i + 1) (fun _ => 1) T ∧ I1 948 T = sm (i + 1) (dRo D) T ∧ I1 980 T = sm (i + 1) (dWt D) T ∧ I1 1012 T = mx (i + 1) (dMi D) T) → Go sc d mt_14 25 [vr 839, vi (i : Int), vi ((2 ^ i : Nat) : Int), vi ((dRo D i : Nat) : Int), vi (S : Int)] [] (z_cfg t, I1, J) Q := by
    intro m
    induction m with
    | zero =>
      intro S I1 hS f1 hr
      refine b14_25 ⟨⟨by omega, by omega⟩, ⟨by omega, by omega⟩, fun z => by omega, fun _ => hq I1 f1 (fun T hT => hr T ?_)⟩
      rw [Nat.pow_succ] at hT
      omega
    | succ m ih =>
      intro S I1 hS f1 hr
      have hS2 : S < 2 ^ i := by omega
      have o := hr S (by omega)
      rw [sm_old hS2, sm_old hS2, sm_old hS2, mx_old hS2] at o
      have r2 : I1 (z_mf (t_rb t) 2) i = dWt D i := by rw [fm I1 2 f1]; exact hrow.1
      have r3 : I1 (z_mf (t_rb t) 3) i = dMi D i := by rw [fm I1 3 f1]; exact hrow.2.1
      have hmx : mx i (dMi D) S ≤ 99 := mx_le S (fun j hj => (hD.2.2.2.2.2.1 j (by omega)).2.1)
      refine b14_25 ?_
      rw [show ((2 ^ i : Nat) : Int) + (S : Int) = ((2 ^ i + S : Nat) : Int) by omega, Int.toNat_natCast, Int.toNat_natCast, Int.toNat_natCast, o.1, o.2.1, o.2.2.1, o.2.2.2, r2, r3, show (S : Int) + 1 = ((S + 1 : Nat) : Int) by omega]
      refine ⟨⟨by omega, by omega⟩, ⟨by omega, by omega⟩, fun _ => ⟨⟨by omega, by omega⟩, fun _ => ⟨⟨by omega, by omega⟩, ⟨by omega, by omega⟩, ⟨by omega, by omega⟩, ⟨⟨by omega, by omega⟩, ⟨by omega, by omega⟩⟩, ?_⟩, fun z => by omega⟩, fun z => by omega⟩
      refine ih (S + 1) _ (by omega) (fun a h1 h2 h3 h4 => ?_) (fun T hT => ?_)
      · rw [zu_ne h4, zu_ne h3, zu_ne h2, zu_ne h1]; exact f1 a h1 h2 h3 h4
      · rw [zu_ne (by decide), zu_ne (by decide), zu_ne (by decide), zu_at, zu_ne (by decide), zu_ne (by decide), zu_at, zu_ne (by decide), zu_ne (by decide), zu_at, zu_ne (by decide), zu_ne (by decide), zu_at, zu_ne (by decide), zu_ne (by decide), zu_ne (by decide)]
        by_cases c : T = 2 ^ i + S
        · rw [if_pos c, if_pos c, if_pos c, if_pos c, c, sm_add hS2, sm_add hS2, sm_add hS2, mx_add hS2]
          refine ⟨by omega, by omega, by omega, ?_⟩
          by_cases z : ((mx i (dMi D) S : Nat) : Int) < ((dMi D i : Nat) : Int)
          · rw [if_pos z, Nat.max_eq_right (by omega)]
          · rw [if_neg z, Nat.max_eq_left (by omega)]
        · rw [if_neg c, if_neg c, if_neg c, if_neg c]
          exact hr T (by omega)
  have start : Go sc d mt_14 25 [vr 839, vi (i : Int), vi ((2 ^ i : Nat) : Int), vi ((dRo D i : Nat) : Int), vi 0] [] (z_cfg t, I, J) Q := by
    refine lp (2 ^ i) 0 I (by omega) (fun _ _ _ _ _ => rfl) (fun T hT => ?_)
    have hT : T < 2 ^ i := by omega
    rw [sm_old hT, sm_old hT, sm_old hT, mx_old hT]
    exact hW T hT
  refine b14_0 ?_
  rw [Int.toNat_natCast, hrow.2.1, esh]
  have er : dRo D i = if 0 < dMi D i then 1 else 0 := rfl
  refine ⟨⟨by omega, by omega⟩, ⟨by omega, by omega⟩, fun z => b14_21 ?_, fun z => b14_21 ?_⟩
  · rw [er, if_pos (by omega)] at start
    exact start
  · rw [er, if_neg (by omega)] at start
    exact start
def cF5 (I I' : Nat → Nat → Int) : Prop := ∀ a, ¬ a = 884 → ¬ a = 916 → ¬ a = 948 → ¬ a = 980 → ¬ a = 1012 → I' a = I a
theorem CD.c5 {b : Bool} (h : CD b I D) (f : cF5 I I') : CD b I' D := h.fr (f _ (by have := zmd_lt b; omega) (by have := zmd_lt b; omega) (by have := zmd_lt b; omega) (by have := zmd_lt b; omega) (by have := zmd_lt b; omega)) (fun k => f _ (by have := zmf_lt b k; omega) (by have := zmf_lt b k; omega) (by have := zmf_lt b k; omega) (by have := zmf_lt b k; omega) (by have := zmf_lt b k; omega))
theorem k13 {bn : Bool} (hd : 3 ≤ d) (hC : CD bn I D) (hD : dOk D) (h0 : I 916 0 = 0 ∧ I 948 0 = 0 ∧ I 980 0 = 0 ∧ I 1012 0 = 0) (hq : ∀ (I' : Nat → Nat → Int), cF5 I I' → RU (t_srb t bn) I' D → Q (.inl none) (z_cfg (t_srb t bn), I', J)) : Go sc d mt_13 0 [vr 839, vr (z_md bn), vn] [] (z_cfg t, I, J) Q := by
  have h8 := hD.2.1
  refine b13_0 (k11 (a := 883) (n := 7680) (by omega) rfl rfl (by decide) (fun I1 hr hf => b13_13 ?_))
  have F1 : cF5 I I1 := fun a h1 _ _ _ _ => hf a h1
  have lp : ∀ (m i : Nat) (I2 : Nat → Nat → Int), i + m = dT D → cF5 I I2 → I2 884 = I1 884 → RWi I2 D i → Go sc d mt_13 15 [vr 839, vr (z_md bn), vi (i : Int)] [] (z_cfg (t_srb t bn), I2, J) Q := by
    intro m
    induction m with
    | zero =>
      intro i I2 hi F2 g2 hW
      have C2 := hC.c5 F2
      have e1 : I2 (z_md bn) 1 = dT D := C2.2.1
      have fin : Q (.inl none) (z_cfg (t_srb t bn), I2, J) := by
        refine hq I2 F2 ⟨C2, ?_, ?_, hD⟩
        · intro S hS
          have e : i = dT D := by omega
          subst e
          have hp := Nat.two_pow_pos (dT D)
          have hS : S ≤ 2 ^ dT D - 1 := hS
          exact hW S (by omega)
        · intro S p q l hS hS2 hp hq hl
          left
          have hS2 := dAll_lt hD
          have hs := hD.1
          rw [g2]
          exact hr _ (by omega)
      refine b13_15 ?_
      show (inR (i : Int)) ∧ ((inR (I2 (z_md bn) 1)) ∧ (((i : Int) < I2 (z_md bn) 1 → _) ∧ (¬ (i : Int) < I2 (z_md bn) 1 → _)))
      rw [e1]
      exact ⟨⟨by omega, by omega⟩, ⟨by omega, by omega⟩, fun z => by omega, fun _ => fin⟩
    | succ m ih =>
      intro i I2 hi F2 g2 hW
      have C2 := hC.c5 F2
      have e1 : I2 (z_md bn) 1 = dT D := C2.2.1
      refine b13_15 ?_
      show (inR (i : Int)) ∧ ((inR (I2 (z_md bn) 1)) ∧ (((i : Int) < I2 (z_md bn) 1 → _) ∧ (¬ (i : Int) < I2 (z_md bn) 1 → _)))
      rw [e1]
      refine ⟨⟨by omega, by omega⟩, ⟨by omega, by omega⟩, fun _ => ⟨fun _ => ?_, fun z => by omega⟩, fun z => by omega⟩
      refine c14 (by omega) (fun d' _ => k14 (t := t_srb t bn) rfl C2 hD (by omega) hW (fun I3 f3 hW3 => b13_37 ?_))
      rw [show (i : Int) + 1 = ((i + 1 : Nat) : Int) by omega]
      exact ih (i + 1) I3 (by omega) (fun a h1 h2 h3 h4 h5 => (f3 a h2 h3 h4 h5).trans (F2 a h1 h2 h3 h4 h5)) ((f3 884 (by decide) (by decide) (by decide) (by decide)).trans g2) hW3
  refine lp (dT D) 0 I1 (by omega) F1 rfl (fun S hS => ?_)
  have hS0 : S = 0 := by
    have : S < 1 := hS
    omega
  subst hS0
  rw [hf 916 (by decide), hf 948 (by decide), hf 980 (by decide), hf 1012 (by decide)]
  exact h0
theorem k15 (hd : 2 ≤ d) (hC : CD (t_rb t) I D) (hD : dOk D) (h0 : I 1812 0 = 0) (hq : ∀ (I' : Nat → Nat → Int), (∀ a, ¬ a = 1732 → ¬ a = 1780 → I' a = I a) → PC I' 0 (fun _ => dStart D) (fun _ => 0) (-1) → Q (.inl none) (z_cfg (t_spb t (t_rb t)), I', J)) : Go sc d mt_15 0 [vr 1732] [] (z_cfg t, I, J) Q := by
  have C1 : CD (t_rb t) (z_u (z_u I 1732 0 0) 1732 1 (-1)) D := hC.fr (by rw [zu_ne (by have := zmd_lt (t_rb t); omega), zu_ne (by have := zmd_lt (t_rb t); omega)]) (fun k => by rw [zu_ne (by have := zmf_lt (t_rb t) k; omega), zu_ne (by have := zmf_lt (t_rb t) k; omega)])
  refine b15_0 (c16 (by omega) (fun d' _ => k16 (by omega) C1 hD (b15_33 ⟨⟨by decide, by decide⟩, ?_⟩)))
  refine hq _ (fun a h1 h2 => by rw [zu_ne h2, zu_ne h1, zu_ne h1]) ⟨?_, ?_, fun i hi => ?_⟩
  · rw [zu_ne (by decide), zu_nk (by decide), zu_same]; rfl
  · rw [zu_ne (by decide), zu_same]
  · have hi0 : i = 0 := Nat.le_zero.1 hi
    subst hi0
    refine ⟨zu_same _ _ _ _, ?_⟩
    rw [zu_ne (by decide), zu_ne (by decide), zu_ne (by decide)]
    exact h0
def t_bt (t : zT) : zT := (t_s t, t_e t, t_l t, !t_b t, !t_b t, t_gb t, t_ob t, !t_b t, t_eb t)
theorem tab_sw (t : zT) : z_sP (z_sP (z_tab t ++ t_l t) 42 4 (z_md (t_b t))) 42 3 (z_md (!t_b t)) = z_tab (t.1, t.2.1, t.2.2.1, !t_b t, t.2.2.2.2) ++ t_l t := by
  obtain ⟨ts, te, tt, b1, b2, b3, b4, b5, b6⟩ := t
  cases b1 <;> rfl
def cFb (I I' : Nat → Nat → Int) : Prop := (∀ a, ¬ a = 884 → ¬ a = 916 → ¬ a = 948 → ¬ a = 980 → ¬ a = 1012 → ¬ a = 1057 → ¬ a = 1481 → ¬ a = 1510 → ¬ a = 1672 → ¬ a = 1732 → ¬ a = 1780 → I' a = I a) ∧ (∀ k, ¬ k = 0 → I' 1057 k = I 1057 k ∧ I' 1510 k = I 1510 k)
theorem CD.low8 {b : Bool} (h : CD b I D) (f : ∀ a, a < 800 → I' a = I a) : CD b I' D := h.fr (f _ (zmd_lt b)) (fun k => f _ (zmf_lt b k))
theorem k130 (hd : 6 ≤ d) (hC : CD (!t_b t) I D) (hD : dOk D) (h0 : I 916 0 = 0 ∧ I 948 0 = 0 ∧ I 980 0 = 0 ∧ I 1012 0 = 0) (h18 : I 1812 0 = 0) (hq : ∀ (I' : Nat → Nat → Int), cFb I I' → RU (t_bt t) I' D → I' 1057 0 = 0 → (I' 1481 0 = 0 ∧ I' 1481 3 = -3 ∧ I' 1481 4 = -3) → I' 1510 0 = -3 → I' 1672 0 = -1 → PC I' 0 (fun _ => dStart D) (fun _ => 0) (-1) → Q (.inl none) (z_cfg (t_bt t), I', J)) : Go sc d mt_130 0 [vr 42, vn] [] (z_cfg t, I, J) Q := by
  refine b130_0 ?_
  rw [tab_sw]
  show Cl sc d 13 [vr 839, vr (z_md (!t_b t))] (z_cfg (t.1, t.2.1, t.2.2.1, !t_b t, t.2.2.2.2), I, J) _
  refine c13 (by omega) (fun d' _ => k13 (by omega) hC hD h0 (fun I1 F1 U1 => b130_29 ?_))
  refine c131 (by omega) (fun d' _ => b131_0 (b130_44 ?_))
  obtain ⟨I2, hI2⟩ : ∃ I2, I2 = z_u (z_u (z_u (z_u (z_u (z_u I1 1057 0 0) 1481 0 0) 1481 3 (-3)) 1481 4 (-3)) 1510 0 (-3)) 1672 0 (-1) := ⟨_, rfl⟩
  rw [← hI2]
  have f2 : ∀ a, ¬ a = 1057 → ¬ a = 1481 → ¬ a = 1510 → ¬ a = 1672 → I2 a = I1 a := fun a a1 a2 a3 a4 => by rw [hI2, zu_ne a4, zu_ne a3, zu_ne a2, zu_ne a2, zu_ne a2, zu_ne a1]
  have C2 : CD (!t_b t) I2 D := CD.low8 (CD.c5 hC F1) (fun a ha => f2 a (by omega) (by omega) (by omega) (by omega))
  refine c15 (by omega) (fun d' _ => k15 (by omega) C2 hD (by rw [f2 1812 (by decide) (by decide) (by decide) (by decide), F1 1812 (by decide) (by decide) (by decide) (by decide) (by decide)]; exact h18) (fun I3 f3 P3 => b130_68 ?_))
  refine hq I3 ⟨fun a a1 a2 a3 a4 a5 a6 a7 a8 a9 a10 a11 => ?_, fun k hk => ⟨?_, ?_⟩⟩ ⟨?_, ?_, ?_, hD⟩ ?_ ⟨?_, ?_, ?_⟩ ?_ ?_ P3
  · rw [f3 a a10 a11, f2 a a6 a7 a8 a9, F1 a a1 a2 a3 a4 a5]
  · rw [f3 1057 (by decide) (by decide), hI2, zu_ne (by decide), zu_ne (by decide), zu_ne (by decide), zu_ne (by decide), zu_ne (by decide), zu_nk hk, F1 1057 (by decide) (by decide) (by decide) (by decide) (by decide)]
  · rw [f3 1510 (by decide) (by decide), hI2, zu_ne (by decide), zu_nk hk, zu_ne (by decide), zu_ne (by decide), zu_ne (by decide), zu_ne (by decide), F1 1510 (by decide) (by decide) (by decide) (by decide) (by decide)]
  · exact CD.low8 C2 (fun a ha => f3 a (by omega) (by omega))
  · intro S hS
    rw [f3 916 (by decide) (by decide), f3 948 (by decide) (by decide), f3 980 (by decide) (by decide), f3 1012 (by decide) (by decide), f2 916 (by decide) (by decide) (by decide) (by decide), f2 948 (by decide) (by decide) (by decide) (by decide), f2 980 (by decide) (by decide) (by decide) (by decide), f2 1012 (by decide) (by decide) (by decide) (by decide)]
    exact U1.2.1 S hS
  · intro S p q l h1 h2 h3 h4 h5
    rw [f3 884 (by decide) (by decide), f2 884 (by decide) (by decide) (by decide) (by decide)]
    exact U1.2.2.1 S p q l h1 h2 h3 h4 h5
  · rw [f3 1057 (by decide) (by decide), hI2, zu_ne (by decide), zu_ne (by decide), zu_ne (by decide), zu_ne (by decide), zu_ne (by decide), zu_same]
  · rw [f3 1481 (by decide) (by decide), hI2, zu_ne (by decide), zu_ne (by decide), zu_nk (by decide), zu_nk (by decide), zu_same]
  · rw [f3 1481 (by decide) (by decide), hI2, zu_ne (by decide), zu_ne (by decide), zu_nk (by decide), zu_same]
  · rw [f3 1481 (by decide) (by decide), hI2, zu_ne (by decide), zu_ne (by decide), zu_same]
  · rw [f3 1510 (by decide) (by decide), hI2, zu_ne (by decide), zu_same]
  · rw [f3 1672 (by decide) (by decide), hI2, zu_same]
/-- text refused: a throw -/
theorem k96t {x1 : Int} {tp : Nat} (hx : inR x1) (h1 : I 42 1 = (tp : Int)) (ht : tp ≤ 700) (hb : x1 < 0 ∨ (tp : Int) < x1) (hq : Q (.inr 1) (z_cfg (t_th t), z_zr I (aTh t), z_zr J (aTh t))) : Go sc d mt_96 0 [vr 42, vi x1, vn] [] (z_cfg t, I, J) Q := by
  rw [← x_th] at hq
  refine b96_0 ?_
  rw [h1]
  exact ⟨hx, fun _ => hq, fun z => ⟨⟨by omega, by omega⟩, fun _ => hq, fun z2 => by omega⟩⟩
/-- text -/
theorem k96 {x1 : Int} {tp : Nat} (e1 : x1 = n) (hd : 92 ≤ d) (h1 : I 42 1 = (tp : Int)) (hn : n ≤ tp) (ht : tp ≤ 700) (hB : CB I B) (hS : SN (!t_b t) I) (h0 : I 916 0 = 0 ∧ I 948 0 = 0 ∧ I 980 0 = 0 ∧ I 1012 0 = 0) (h18 : I 1812 0 = 0)
    (hbad : ∀ e, (tAll B n).1 = .inr e → ∀ (I' : Nat → Nat → Int), (∀ a, ¬ a = 805 → ¬ a = 42 → ¬ (z_md (!t_b t) ≤ a ∧ a < z_md (!t_b t) + 352) → I' a = I a) → SN (!t_b t) I' → I' 42 1 = 0 → I' 42 2 = (e.2 : Int) → (1 ≤ e.1 ∧ e.1 ≤ 5) → e.2 ≤ 700 → Q (.inl (some (vi (e.1 : Int)))) (z_cfg (t_seb t (!t_b t)), I', J))
    (hgood : ∀ q, (tAll B n).1 = .inl q → ∀ (I' : Nat → Nat → Int), (∀ a, ¬ a = 805 → ¬ a = 42 → ¬ (z_md (!t_b t) ≤ a ∧ a < z_md (!t_b t) + 352) → ¬ a = 884 → ¬ a = 916 → ¬ a = 948 → ¬ a = 980 → ¬ a = 1012 → ¬ a = 1057 → ¬ a = 1481 → ¬ a = 1510 → ¬ a = 1672 → ¬ a = 1732 → ¬ a = 1780 → I' a = I a) → (∀ k, ¬ k = 0 → I' 1057 k = I 1057 k ∧ I' 1510 k = I 1510 k) → SN (!t_b t) I' → I' 42 1 = 0 → I' 42 2 = -1 → RU (t_bt (t_seb t (!t_b t))) I' (tEnd (tAll B n)) → I' 1057 0 = 0 → (I' 1481 0 = 0 ∧ I' 1481 3 = -3 ∧ I' 1481 4 = -3) → I' 1510 0 = -3 → I' 1672 0 = -1 → PC I' 0 (fun _ => dStart (tEnd (tAll B n))) (fun _ => 0) (-1) → Q (.inl (some (vi 0))) (z_cfg (t_bt (t_seb t (!t_b t))), I', J)) : Go sc d mt_96 0 [vr 42, vi x1, vn] [] (z_cfg t, I, J) Q := by
  subst e1
  refine b96_0 ?_
  rw [h1]
  refine ⟨⟨by omega, by omega⟩, fun z => by omega, fun _ => ⟨⟨by omega, by omega⟩, fun z => by omega, fun _ => ?_⟩⟩
  refine c97 (by omega) (fun d' _ => k97 (B := B) rfl (by omega) (by omega) hB hS (fun I1 F1 B1 S1 h => b96_34 ?_))
  have zm := zmd_or (!t_b t)
  rcases h with ⟨q, hs, g7, g8, gC, gD⟩ | ⟨e, hs, g7, g8, g9, g10⟩
  · rw [g7, g8]
    refine ⟨⟨by decide, by decide⟩, fun _ => ?_, fun z => absurd rfl z⟩
    have f2 : ∀ a, ¬ a = 42 → z_u (z_u I1 42 2 (-1)) 42 1 0 a = I1 a := fun a ha => by rw [zu_ne ha, zu_ne ha]
    have fa : ∀ a, 805 < a → z_u (z_u I1 42 2 (-1)) 42 1 0 a = I a := fun a ha => by rw [f2 a (by omega)]; exact F1 a (by omega) (by omega)
    have C2 : CD (!t_b t) (z_u (z_u I1 42 2 (-1)) 42 1 0) (tEnd (tAll B n)) := gC.fr (f2 _ (by omega)) (fun k => f2 _ (by
      by_cases hk : vfd k = true
      · have := (zrg (!t_b t) hk).1; omega
      · intro z
        have h17 : k < 17 := by
          by_cases h : k < 17
          · exact h
          · rw [zmf_0 _ (by omega)] at z; cases z
        have A : ∀ k, k < 17 → ∀ b : Bool, ¬ z_mf b k = 42 := by decide
        exact A k h17 _ z))
    refine c130 (by omega) (fun d' _ => k130 (t := t_seb t (!t_b t)) (by omega) C2 gD (by rw [fa 916 (by decide), fa 948 (by decide), fa 980 (by decide), fa 1012 (by decide)]; exact h0) (by rw [fa 1812 (by decide)]; exact h18) (fun I3 F3 U3 k1 k2 k3 k4 P3 => b96_59 ?_))
    refine hgood q hs I3 (fun a a1 a2 a3 b1 b2 b3 b4 b5 b6 b7 b8 b9 b10 b11 => ?_) (fun k hk => ?_) ?_ ?_ ?_ U3 k1 k2 k3 k4 P3
    · rw [F3.1 a b1 b2 b3 b4 b5 b6 b7 b8 b9 b10 b11, f2 a a2]; exact F1 a a1 a3
    · rw [(F3.2 k hk).1, (F3.2 k hk).2, fa 1057 (by decide), fa 1510 (by decide)]; exact ⟨rfl, rfl⟩
    · have low : ∀ a, a < 800 → ¬ a = 42 → I3 a = I1 a := fun a ha h42 => by rw [F3.1 a (by omega) (by omega) (by omega) (by omega) (by omega) (by omega) (by omega) (by omega) (by omega) (by omega) (by omega), f2 a h42]
      have lf : ∀ k, vfd k = true → I3 (z_mf (!t_b t) k) = I1 (z_mf (!t_b t) k) := fun k hk => low _ (zmf_lt _ k) (by have := (zrg (!t_b t) hk).1; omega)
      exact S1.fr (lf 6 (by decide)) (lf 7 (by decide)) (by rw [lf 14 (by decide)]) (by rw [low _ (zmd_lt _) (by omega)]; exact S1.2.2)
    · rw [F3.1 42 (by decide) (by decide) (by decide) (by decide) (by decide) (by decide) (by decide) (by decide) (by decide) (by decide) (by decide), zu_same]
    · rw [F3.1 42 (by decide) (by decide) (by decide) (by decide) (by decide) (by decide) (by decide) (by decide) (by decide) (by decide) (by decide), zu_nk (by decide), zu_same]
  · rw [g7, g8]
    refine ⟨⟨by omega, by omega⟩, fun z => by omega, fun _ => ?_⟩
    refine hbad e hs _ (fun a a1 a2 a3 => by rw [zu_ne a2, zu_ne a2]; exact F1 a a1 a3) ?_ (zu_same _ _ _ _) (by rw [zu_nk (by decide), zu_same]) g9 g10
    have lf : ∀ k, vfd k = true → z_u (z_u I1 42 2 (e.2 : Int)) 42 1 0 (z_mf (!t_b t) k) = I1 (z_mf (!t_b t) k) := fun k hk => by rw [zu_ne (by have := (zrg (!t_b t) hk).1; omega), zu_ne (by have := (zrg (!t_b t) hk).1; omega)]
    exact S1.fr (lf 6 (by decide)) (lf 7 (by decide)) (by rw [lf 14 (by decide)]) (by rw [zu_ne (by omega), zu_ne (by omega)]; exact S1.2.2)
end
