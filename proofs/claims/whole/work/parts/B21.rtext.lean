/-! ===== a text, the reference: takes, begins, text ===== -/
def zFt (I I' : Nat → Nat → Int) : Prop := (∀ a, ¬ a = 1835 → ¬ (1876 ≤ a ∧ a ≤ 2164) → I' a = I a) ∧ ∀ k, ¬ (1 ≤ k ∧ k ≤ 5) → ¬ k = 13 → I' 1835 k = I 1835 k
section
variable {sc : mS} {d : Nat} {t : zT} {I J I' J' : Nat → Nat → Int} {Q : zR → zW → Prop} {B : Nat → Nat} {n : Nat} {D : tD} {w : Bool} {top : Nat}
theorem k218 {s : xT} (hA : RA I D w top) (ht : top ≤ 1200) (hD : dOk D) (hq : ∀ (I' : Nat → Nat → Int), zFt I I' → RD I' (tEnd (s, D, w)) (dHo (tEnd (s, D, w)) 0) (dLo (tEnd (s, D, w)) 0) → Q (.inl none) (z_cfg t, I', J)) : Go sc d mt_218 0 [vr 1835, vn] [] (z_cfg t, I, J) Q := by
  obtain ⟨⟨a1, a2, a3, a4, a5, a6, a7⟩, h1, h2, h3, h4⟩ := hA
  have h8 := hD.2.1
  have hb2 := hD.2.2.1
  have h12 := hD.2.2.2.1
  -- the rows, copied
  have lpE : ∀ (m i : Nat) (I0 I1 : Nat → Nat → Int), i + m = 1200 → (∀ a, ¬ a = 2164 → I1 a = I0 a) → (∀ j, j < i → I1 2164 j = I0 2484 j) → (∀ (I2 : Nat → Nat → Int), (∀ a, ¬ a = 2164 → I2 a = I0 a) → (∀ j, j < 1200 → I2 2164 j = I0 2484 j) → Q (.inl none) (z_cfg t, I2, J)) → Go sc d mt_218 215 [vr 1835, vi (i : Int)] [] (z_cfg t, I1, J) Q := by
    intro m
    induction m with
    | zero =>
      intro i I0 I1 hi hf hr hk
      exact b218_215 ⟨⟨by omega, by omega⟩, fun z => by omega, fun _ => hk I1 hf (fun j hj => hr j (by omega))⟩
    | succ m ih =>
      intro i I0 I1 hi hf hr hk
      refine b218_215 ?_
      rw [Int.toNat_natCast, show (i : Int) + 1 = ((i + 1 : Nat) : Int) by omega, hf 2484 (by decide)]
      refine ⟨⟨by omega, by omega⟩, fun _ => ⟨⟨by omega, by omega⟩, ih (i + 1) I0 _ (by omega) (fun a ha => by rw [zu_ne ha]; exact hf a ha) (fun j hj => ?_) hk⟩, fun z => by omega⟩
      rw [zu_at]
      by_cases c : j = i
      · rw [if_pos c, c]
      · rw [if_neg c]; exact hr j (by omega)
  have lpD : ∀ (m i : Nat) (I0 I1 : Nat → Nat → Int), i + m = dL D → I0 1835 4 = dL D → (∀ a, ¬ a = 2100 → ¬ a = 2132 → I1 a = I0 a) → (∀ j, j < i → I1 2100 j = I0 2420 j ∧ I1 2132 j = I0 2452 j) → (∀ (I2 : Nat → Nat → Int), (∀ a, ¬ a = 2100 → ¬ a = 2132 → I2 a = I0 a) → (∀ j, j < dL D → I2 2100 j = I0 2420 j ∧ I2 2132 j = I0 2452 j) → Go sc d mt_218 215 [vr 1835, vi 0] [] (z_cfg t, I2, J) Q) → Go sc d mt_218 175 [vr 1835, vi (i : Int)] [] (z_cfg t, I1, J) Q := by
    intro m
    induction m with
    | zero =>
      intro i I0 I1 hi e4 hf hr hk
      refine b218_175 ?_
      rw [hf 1835 (by decide) (by decide), e4]
      exact ⟨⟨by omega, by omega⟩, ⟨by omega, by omega⟩, fun z => by omega, fun _ => hk I1 hf (fun j hj => hr j (by omega))⟩
    | succ m ih =>
      intro i I0 I1 hi e4 hf hr hk
      refine b218_175 ?_
      rw [hf 1835 (by decide) (by decide), e4, Int.toNat_natCast, show (i : Int) + 1 = ((i + 1 : Nat) : Int) by omega, hf 2420 (by decide) (by decide), hf 2452 (by decide) (by decide)]
      refine ⟨⟨by omega, by omega⟩, ⟨by omega, by omega⟩, fun _ => ⟨⟨by omega, by omega⟩, ih (i + 1) I0 _ (by omega) e4 (fun a ha hb => by rw [zu_ne hb, zu_ne ha]; exact hf a ha hb) (fun j hj => ?_) hk⟩, fun z => by omega⟩
      rw [zu_ne (by decide), zu_at, zu_at, zu_ne (by decide)]
      by_cases c : j = i
      · rw [if_pos c, if_pos c, c]; exact ⟨rfl, rfl⟩
      · rw [if_neg c, if_neg c]; exact hr j (by omega)
  have lpC : ∀ (m i : Nat) (I0 I1 : Nat → Nat → Int), i + m = 16 → (∀ a, ¬ a = 2070 → I1 a = I0 a) → (∀ j, j < i → I1 2070 j = znz (I0 2550 j)) → (∀ (I2 : Nat → Nat → Int), (∀ a, ¬ a = 2070 → I2 a = I0 a) → (∀ j, j < 16 → I2 2070 j = znz (I0 2550 j)) → Go sc d mt_218 175 [vr 1835, vi 0] [] (z_cfg t, I2, J) Q) → Go sc d mt_218 149 [vr 1835, vi (i : Int)] [] (z_cfg t, I1, J) Q := by
    intro m
    induction m with
    | zero =>
      intro i I0 I1 hi hf hr hk
      exact b218_149 ⟨⟨by omega, by omega⟩, fun z => by omega, fun _ => hk I1 hf (fun j hj => hr j (by omega))⟩
    | succ m ih =>
      intro i I0 I1 hi hf hr hk
      refine b218_149 ?_
      rw [Int.toNat_natCast, show (i : Int) + 1 = ((i + 1 : Nat) : Int) by omega, hf 2550 (by decide)]
      refine ⟨⟨by omega, by omega⟩, fun _ => ⟨⟨by omega, by omega⟩, ih (i + 1) I0 _ (by omega) (fun a ha => by rw [zu_ne ha]; exact hf a ha) (fun j hj => ?_) hk⟩, fun z => by omega⟩
      rw [zu_at]
      by_cases c : j = i
      · rw [if_pos c, c]
      · rw [if_neg c]; exact hr j (by omega)
  have lpB : ∀ (m i : Nat) (I0 I1 : Nat → Nat → Int), i + m = 2 → (∀ a, ¬ a = 1972 → ¬ a = 2004 → ¬ a = 2036 → I1 a = I0 a) → (∀ j, j < i → I1 1972 j = I0 2324 j ∧ I1 2004 j = I0 2356 j ∧ I1 2036 j = I0 2388 j) → (∀ (I2 : Nat → Nat → Int), (∀ a, ¬ a = 1972 → ¬ a = 2004 → ¬ a = 2036 → I2 a = I0 a) → (∀ j, j < 2 → I2 1972 j = I0 2324 j ∧ I2 2004 j = I0 2356 j ∧ I2 2036 j = I0 2388 j) → Go sc d mt_218 149 [vr 1835, vi 0] [] (z_cfg t, I2, J) Q) → Go sc d mt_218 100 [vr 1835, vi (i : Int)] [] (z_cfg t, I1, J) Q := by
    intro m
    induction m with
    | zero =>
      intro i I0 I1 hi hf hr hk
      exact b218_100 ⟨⟨by omega, by omega⟩, fun z => by omega, fun _ => hk I1 hf (fun j hj => hr j (by omega))⟩
    | succ m ih =>
      intro i I0 I1 hi hf hr hk
      refine b218_100 ?_
      rw [Int.toNat_natCast, show (i : Int) + 1 = ((i + 1 : Nat) : Int) by omega, hf 2324 (by decide) (by decide) (by decide), hf 2356 (by decide) (by decide) (by decide), hf 2388 (by decide) (by decide) (by decide)]
      refine ⟨⟨by omega, by omega⟩, fun _ => ⟨⟨by omega, by omega⟩, ih (i + 1) I0 _ (by omega) (fun a h1 h2 h3 => by rw [zu_ne h3, zu_ne h2, zu_ne h1]; exact hf a h1 h2 h3) (fun j hj => ?_) hk⟩, fun z => by omega⟩
      rw [zu_ne (by decide), zu_ne (by decide), zu_at, zu_ne (by decide), zu_at, zu_ne (by decide), zu_at, zu_ne (by decide), zu_ne (by decide)]
      by_cases c : j = i
      · rw [if_pos c, if_pos c, if_pos c, c]; exact ⟨rfl, rfl, rfl⟩
      · rw [if_neg c, if_neg c, if_neg c]; exact hr j (by omega)
  have lpA : ∀ (m i : Nat) (I0 I1 : Nat → Nat → Int), i + m = 8 → (∀ a, ¬ a = 1876 → ¬ a = 1908 → ¬ a = 1940 → I1 a = I0 a) → (∀ j, j < i → I1 1876 j = I0 2228 j ∧ I1 1908 j = I0 2260 j ∧ I1 1940 j = I0 2292 j) → (∀ (I2 : Nat → Nat → Int), (∀ a, ¬ a = 1876 → ¬ a = 1908 → ¬ a = 1940 → I2 a = I0 a) → (∀ j, j < 8 → I2 1876 j = I0 2228 j ∧ I2 1908 j = I0 2260 j ∧ I2 1940 j = I0 2292 j) → Go sc d mt_218 100 [vr 1835, vi 0] [] (z_cfg t, I2, J) Q) → Go sc d mt_218 50 [vr 1835, vi (i : Int)] [] (z_cfg t, I1, J) Q := by
    intro m
    induction m with
    | zero =>
      intro i I0 I1 hi hf hr hk
      exact b218_50 ⟨⟨by omega, by omega⟩, fun z => by omega, fun _ => hk I1 hf (fun j hj => hr j (by omega))⟩
    | succ m ih =>
      intro i I0 I1 hi hf hr hk
      refine b218_50 ?_
      rw [Int.toNat_natCast, show (i : Int) + 1 = ((i + 1 : Nat) : Int) by omega, hf 2228 (by decide) (by decide) (by decide), hf 2260 (by decide) (by decide) (by decide), hf 2292 (by decide) (by decide) (by decide)]
      refine ⟨⟨by omega, by omega⟩, fun _ => ⟨⟨by omega, by omega⟩, ih (i + 1) I0 _ (by omega) (fun a h1 h2 h3 => by rw [zu_ne h3, zu_ne h2, zu_ne h1]; exact hf a h1 h2 h3) (fun j hj => ?_) hk⟩, fun z => by omega⟩
      rw [zu_ne (by decide), zu_ne (by decide), zu_at, zu_ne (by decide), zu_at, zu_ne (by decide), zu_at, zu_ne (by decide), zu_ne (by decide)]
      by_cases c : j = i
      · rw [if_pos c, if_pos c, if_pos c, c]; exact ⟨rfl, rfl, rfl⟩
      · rw [if_neg c, if_neg c, if_neg c]; exact hr j (by omega)
  refine b218_0 ⟨by rw [a7]; cases w <;> decide, ?_⟩
  rw [a1, a2, a3, a4, a5, a7]
  have m0 : ∀ a, ¬ a = 1835 → z_u (z_u (z_u (z_u (z_u (z_u I 1835 1 (dS D : Int)) 1835 2 (dT D : Int)) 1835 3 (dB D : Int)) 1835 4 (dL D : Int)) 1835 5 (dLamp D)) 1835 13 ((w.toNat : Nat) : Int) a = I a := fun a ha => by rw [zu_ne ha, zu_ne ha, zu_ne ha, zu_ne ha, zu_ne ha, zu_ne ha]
  refine lpA 8 0 _ _ (by omega) (fun _ _ _ _ => rfl) (fun j hj => absurd hj (by omega)) (fun IA fA rA => ?_)
  refine lpB 2 0 IA IA (by omega) (fun _ _ _ _ => rfl) (fun j hj => absurd hj (by omega)) (fun IB fB rB => ?_)
  refine lpC 16 0 IB IB (by omega) (fun _ _ => rfl) (fun j hj => absurd hj (by omega)) (fun IC fC rC => ?_)
  have c4 : IC 1835 4 = dL D := by
    rw [fC 1835 (by decide), fB 1835 (by decide) (by decide) (by decide), fA 1835 (by decide) (by decide) (by decide), zu_nk (by decide), zu_nk (by decide), zu_same]
  refine lpD (dL D) 0 IC IC (by omega) c4 (fun _ _ _ => rfl) (fun j hj => absurd hj (by omega)) (fun ID fD rD => ?_)
  refine lpE 1200 0 ID ID (by omega) (fun _ _ => rfl) (fun j hj => absurd hj (by omega)) (fun IE fE rE => ?_)
  have g1835 : IE 1835 = z_u (z_u (z_u (z_u (z_u (z_u I 1835 1 (dS D : Int)) 1835 2 (dT D : Int)) 1835 3 (dB D : Int)) 1835 4 (dL D : Int)) 1835 5 (dLamp D)) 1835 13 ((w.toNat : Nat) : Int) 1835 := by
    rw [fE 1835 (by decide), fD 1835 (by decide) (by decide), fC 1835 (by decide), fB 1835 (by decide) (by decide) (by decide), fA 1835 (by decide) (by decide) (by decide)]
  have k1 : IE 1835 1 = dS D := by rw [g1835, zu_nk (by decide), zu_nk (by decide), zu_nk (by decide), zu_nk (by decide), zu_nk (by decide), zu_same]
  have k2 : IE 1835 2 = dT D := by rw [g1835, zu_nk (by decide), zu_nk (by decide), zu_nk (by decide), zu_nk (by decide), zu_same]
  have k3 : IE 1835 3 = dB D := by rw [g1835, zu_nk (by decide), zu_nk (by decide), zu_nk (by decide), zu_same]
  have k4 : IE 1835 4 = dL D := by rw [g1835, zu_nk (by decide), zu_nk (by decide), zu_same]
  have k5 : IE 1835 5 = dLamp D := by rw [g1835, zu_nk (by decide), zu_same]
  have k13 : IE 1835 13 = ((w.toNat : Nat) : Int) := by rw [g1835, zu_same]
  have gth : ∀ i, i < dT D → IE 1876 i = dWt D i ∧ IE 1908 i = dMi D i ∧ IE 1940 i = dLe D i := fun i hi => by
    rw [fE 1876 (by decide), fE 1908 (by decide), fE 1940 (by decide), fD 1876 (by decide) (by decide), fD 1908 (by decide) (by decide), fD 1940 (by decide) (by decide), fC 1876 (by decide), fC 1908 (by decide), fC 1940 (by decide), fB 1876 (by decide) (by decide) (by decide), fB 1908 (by decide) (by decide) (by decide), fB 1940 (by decide) (by decide) (by decide)]
    have r := rA i (by omega)
    rw [m0 2228 (by decide), m0 2260 (by decide), m0 2292 (by decide)] at r
    have g := h1 i hi
    exact ⟨r.1.trans g.1, r.2.1.trans g.2.1, r.2.2.trans g.2.2⟩
  have gbo : ∀ b, b < dB D → IE 1972 b = dHo D b ∧ IE 2004 b = dLo D b ∧ IE 2036 b = dAt D b := fun i hi => by
    rw [fE 1972 (by decide), fE 2004 (by decide), fE 2036 (by decide), fD 1972 (by decide) (by decide), fD 2004 (by decide) (by decide), fD 2036 (by decide) (by decide), fC 1972 (by decide), fC 2004 (by decide), fC 2036 (by decide)]
    have r := rB i (by omega)
    rw [fA 2324 (by decide) (by decide) (by decide), fA 2356 (by decide) (by decide) (by decide), fA 2388 (by decide) (by decide) (by decide), m0 2324 (by decide), m0 2356 (by decide), m0 2388 (by decide)] at r
    have g := h2 i hi
    exact ⟨r.1.trans g.1, r.2.1.trans g.2.1, r.2.2.trans g.2.2⟩
  have gwa : ∀ i j, i < 4 → j < 4 → IE 2070 (4 * i + j) = ((((dWa D i).testBit j).toNat : Nat) : Int) := fun i j hi hj => by
    rw [fE 2070 (by decide), fD 2070 (by decide) (by decide), rC _ (by omega), fB 2550 (by decide) (by decide) (by decide), fA 2550 (by decide) (by decide) (by decide), m0 2550 (by decide), h3 i j hi hj, znz_b]
  have g84 : ID 2484 = I 2484 := by
    rw [fD 2484 (by decide) (by decide), fC 2484 (by decide), fB 2484 (by decide) (by decide) (by decide), fA 2484 (by decide) (by decide) (by decide), m0 2484 (by decide)]
  have glw : ∀ k, k < dL D → IE 2100 k = dSc D k ∧ ∃ st : Nat, IE 2132 k = (st : Int) ∧ rowAt (IE 2164) st ((dCo D k).flatMap encR ++ [0]) ∧ st + ((dCo D k).flatMap encR).length + 1 ≤ 1200 ∧ (dCo D k).length ≤ 700 := fun k hk => by
    rw [fE 2100 (by decide), fE 2132 (by decide)]
    have r := rD k hk
    rw [fC 2420 (by decide), fC 2452 (by decide), fB 2420 (by decide) (by decide) (by decide), fB 2452 (by decide) (by decide) (by decide), fA 2420 (by decide) (by decide) (by decide), fA 2452 (by decide) (by decide) (by decide), m0 2420 (by decide), m0 2452 (by decide)] at r
    obtain ⟨b1, st, b2, b3, b4, b5⟩ := h4 k hk
    refine ⟨r.1.trans b1, st, r.2.trans b2, fun i x hx => ?_, by omega, b5⟩
    have hl := (List.getElem?_eq_some_iff.mp hx).1
    rw [List.length_append] at hl
    have hl : i < ((dCo D k).flatMap encR).length + 1 := hl
    rw [rE _ (by omega), g84]
    exact b3 i x hx
  have hb0 : ∀ (b x y : Nat), (b = 0 → x = y) → ((if b = 0 then x else y : Nat) : Int) = (y : Int) := fun b x y h => by
    by_cases c : b = 0
    · rw [if_pos c, h c]
    · rw [if_neg c]
  refine hq IE ⟨fun a h1 h2 => ?_, fun k h1 h2 => ?_⟩ ?_
  · rw [fE a (by omega), fD a (by omega) (by omega), fC a (by omega), fB a (by omega) (by omega) (by omega), fA a (by omega) (by omega) (by omega), m0 a h1]
  · rw [g1835, zu_nk h2, zu_nk (by omega), zu_nk (by omega), zu_nk (by omega), zu_nk (by omega), zu_nk (by omega)]
  · cases w with
    | true =>
      refine ⟨k1, k2, k3, k4, k5, gth, fun b hb => ?_, Or.inr ⟨k13, gwa⟩, fun k hk => (glw k hk).1, fun k hk => (glw k hk).2⟩
      have g := gbo b hb
      refine ⟨?_, ?_, g.2.2⟩
      · rw [hb0 b _ _ (fun z => by rw [z])]; exact g.1
      · rw [hb0 b _ _ (fun z => by rw [z])]; exact g.2.1
    | false =>
      refine ⟨k1, k2, k3, k4, k5, gth, fun b hb => ?_, Or.inl ⟨k13, fun i j hi hj => w_all_t i hi j hj⟩, fun k hk => (glw k hk).1, fun k hk => (glw k hk).2⟩
      have g := gbo b hb
      refine ⟨?_, ?_, g.2.2⟩
      · rw [hb0 b _ _ (fun z => by rw [z])]; exact g.1
      · rw [hb0 b _ _ (fun z => by rw [z])]; exact g.2.1
/-- the reference begins anew -/
def RBg (I : Nat → Nat → Int) (D : tD) : Prop := (∀ i, i < 7680 → I 2612 i = 0) ∧ (I 1835 67 = 0 ∧ I 1835 78 = 0 ∧ I 3252 0 = 0 ∧ I 3252 1 = 0 ∧ I 1835 82 = 0 ∧ I 1835 52 = -1 ∧ I 1835 84 = 0 ∧ I 1835 85 = -1 ∧ I 1835 70 = -1) ∧ (∃ r : Nat, I 3316 0 = r ∧ SR (dStart D) r) ∧ I 3348 0 = 0
def zFb (I I' : Nat → Nat → Int) : Prop := (∀ a, ¬ a = 1835 → ¬ a = 2612 → ¬ a = 3252 → ¬ a = 3316 → ¬ a = 3348 → I' a = I a) ∧ ∀ k, ¬ k = 67 → ¬ k = 78 → ¬ k = 82 → ¬ k = 52 → ¬ k = 84 → ¬ k = 85 → ¬ k = 70 → I' 1835 k = I 1835 k
theorem RD.fb2 {ho lo : Nat} (h : RD I D ho lo) (f : zFb I I') : RD I' D ho lo := h.fr (fun k hk => f.2 k (by omega) (by omega) (by omega) (by omega) (by omega) (by omega) (by omega)) (fun a ha => f.1 a (by omega) (by omega) (by omega) (by omega) (by omega))
theorem k183 {ho lo : Nat} (hd : 1 ≤ d) (hR : RD I D ho lo) (hD : dOk D) (hq : ∀ (I' : Nat → Nat → Int), zFb I I' → RBg I' D → Q (.inl none) (z_cfg t, I', J)) : Go sc d mt_183 0 [vr 1835, vn] [] (z_cfg t, I, J) Q := by
  have lp : ∀ (m i : Nat) (I1 : Nat → Nat → Int), i + m = 7680 → (∀ a, ¬ a = 2612 → I1 a = I a) → (∀ j, j < i → I1 2612 j = 0) → Go sc d mt_183 2 [vr 1835, vi (i : Int)] [] (z_cfg t, I1, J) Q := by
    intro m
    induction m with
    | zero =>
      intro i I1 hi hf hr
      refine b183_2 ⟨⟨by omega, by omega⟩, fun z => by omega, fun _ => ?_⟩
      have f2 : zFb I (z_u (z_u (z_u (z_u (z_u (z_u (z_u (z_u I1 1835 67 0) 1835 78 0) 3252 0 0) 3252 1 0) 1835 82 0) 1835 52 (-1)) 1835 84 0) 1835 85 (-1)) := by
        refine ⟨fun a h1 h2 h3 h4 h5 => ?_, fun k k1 k2 k3 k4 k5 k6 k7 => ?_⟩
        · rw [zu_ne h1, zu_ne h1, zu_ne h1, zu_ne h1, zu_ne h3, zu_ne h3, zu_ne h1, zu_ne h1]; exact hf a h2
        · rw [zu_nk k6, zu_nk k5, zu_nk k4, zu_nk k3, zu_ne (by decide), zu_ne (by decide), zu_nk k2, zu_nk k1, hf 1835 (by decide)]
      refine c184 hd (fun d' _ => k184 (hR.fb2 f2) hD (fun r hr2 => b183_75 ⟨⟨by omega, by omega⟩, ?_⟩))
      refine hq _ ⟨fun a h1 h2 h3 h4 h5 => ?_, fun k k1 k2 k3 k4 k5 k6 k7 => ?_⟩ ⟨fun i' hi' => ?_, ⟨?_, ?_, ?_, ?_, ?_, ?_, ?_, ?_, ?_⟩, ⟨r, ?_, hr2⟩, ?_⟩
      · rw [zu_ne h1, zu_ne h5, zu_ne h4]; exact f2.1 a h1 h2 h3 h4 h5
      · rw [zu_nk k7, zu_ne (by decide), zu_ne (by decide)]; exact f2.2 k k1 k2 k3 k4 k5 k6 k7
      · rw [zu_ne (by decide), zu_ne (by decide), zu_ne (by decide), zu_ne (by decide), zu_ne (by decide), zu_ne (by decide), zu_ne (by decide), zu_ne (by decide), zu_ne (by decide), zu_ne (by decide), zu_ne (by decide)]; exact hr i' (by omega)
      · rw [zu_nk (by decide), zu_ne (by decide), zu_ne (by decide), zu_nk (by decide), zu_nk (by decide), zu_nk (by decide), zu_nk (by decide), zu_ne (by decide), zu_ne (by decide), zu_nk (by decide), zu_same]
      · rw [zu_nk (by decide), zu_ne (by decide), zu_ne (by decide), zu_nk (by decide), zu_nk (by decide), zu_nk (by decide), zu_nk (by decide), zu_ne (by decide), zu_ne (by decide), zu_same]
      · rw [zu_ne (by decide), zu_ne (by decide), zu_ne (by decide), zu_ne (by decide), zu_ne (by decide), zu_ne (by decide), zu_ne (by decide), zu_nk (by decide), zu_same]
      · rw [zu_ne (by decide), zu_ne (by decide), zu_ne (by decide), zu_ne (by decide), zu_ne (by decide), zu_ne (by decide), zu_ne (by decide), zu_same]
      · rw [zu_nk (by decide), zu_ne (by decide), zu_ne (by decide), zu_nk (by decide), zu_nk (by decide), zu_nk (by decide), zu_same]
      · rw [zu_nk (by decide), zu_ne (by decide), zu_ne (by decide), zu_nk (by decide), zu_nk (by decide), zu_same]
      · rw [zu_nk (by decide), zu_ne (by decide), zu_ne (by decide), zu_nk (by decide), zu_same]
      · rw [zu_nk (by decide), zu_ne (by decide), zu_ne (by decide), zu_same]
      · rw [zu_same]
      · rw [zu_ne (by decide), zu_ne (by decide)]; exact zu_same _ _ _ _
      · rw [zu_ne (by decide), zu_same]
    | succ m ih =>
      intro i I1 hi hf hr
      refine b183_2 ?_
      rw [Int.toNat_natCast, show (i : Int) + 1 = ((i + 1 : Nat) : Int) by omega]
      refine ⟨⟨by omega, by omega⟩, fun _ => ⟨⟨by omega, by omega⟩, ih (i + 1) _ (by omega) (fun a ha => by rw [zu_ne ha]; exact hf a ha) (fun j hj => ?_)⟩, fun z => by omega⟩
      rw [zu_at]
      by_cases c : j = i
      · rw [if_pos c]
      · rw [if_neg c]; exact hr j (by omega)
  exact b183_0 (lp 7680 0 I (by omega) (fun _ _ => rfl) (fun j hj => absurd hj (by omega)))
theorem RA.sh {v : Nat} (h : RA I dIni false 0) : RA (z_u I 1835 29 (v : Int)) (d_S dIni v) false 0 := by
  obtain ⟨⟨a1, a2, a3, a4, a5, a6, a7⟩, h1, h2, h3, h4⟩ := h
  refine ⟨⟨zu_same _ _ _ _, by rw [zu_nk (by decide)]; exact a2, by rw [zu_nk (by decide)]; exact a3, by rw [zu_nk (by decide)]; exact a4, by rw [zu_nk (by decide)]; exact a5, by rw [zu_nk (by decide)]; exact a6, by rw [zu_nk (by decide)]; exact a7⟩, fun i hi => absurd hi (Nat.not_lt_zero _), fun i hi => absurd hi (Nat.not_lt_zero _), ?_, fun i hi => absurd hi (Nat.not_lt_zero _)⟩
  rw [zu_ne (by decide)]
  exact h3
def zF0 (I J I' J' : Nat → Nat → Int) : Prop := (∀ a, ¬ a = 1835 → ¬ (2228 ≤ a ∧ a ≤ 2582) → I' a = I a) ∧ (∀ k, ¬ k = 0 → ¬ k = 18 → ¬ (19 ≤ k ∧ k ≤ 37) → I' 1835 k = I 1835 k) ∧ ∀ a, ¬ a = 1835 → J' a = J a
def zF1 (I J I' J' : Nat → Nat → Int) : Prop := (∀ a, a < 1835 ∨ a = 2196 ∨ 3360 < a → I' a = I a) ∧ ∀ a, ¬ a = 1835 → J' a = J a
theorem k188 {x1 : Int} {tp : Nat} (e1 : x1 = n) (hd : 16 ≤ d) (h18 : I 1835 18 = (tp : Int)) (hn : n ≤ tp) (htp : tp ≤ 700) (hB : RBy I B)
    (hbad : ∀ e, (tAll B n).1 = .inr e → ∀ (I' J' : Nat → Nat → Int), zF0 I J I' J' → I' 1835 0 = 0 → I' 1835 18 = 0 → I' 1835 20 = (e.2 : Int) → Q (.inl (some (vi (e.1 : Int)))) (z_cfg t, I', J'))
    (hgood : ∀ q, (tAll B n).1 = .inl q → ∀ (I' J' : Nat → Nat → Int), zF1 I J I' J' → I' 1835 0 = 0 → I' 1835 18 = 0 → I' 1835 20 = -1 → RD I' (tEnd (tAll B n)) (dHo (tEnd (tAll B n)) 0) (dLo (tEnd (tAll B n)) 0) → RBg I' (tEnd (tAll B n)) → dOk (tEnd (tAll B n)) → Q (.inl (some (vi 0))) (z_cfg t, I', J')) : Go sc d mt_188 0 [vr 1835, vi x1, vn] [] (z_cfg t, I, J) Q := by
  subst e1
  refine b188_0 ?_
  rw [h18]
  refine ⟨⟨by omega, by omega⟩, fun z => by omega, fun _ => ⟨⟨by omega, by omega⟩, fun z => by omega, fun _ => b188_23 ?_⟩⟩
  refine c189 (by omega) (fun d' _ => k189y rfl (zu_same _ _ _ _) (b188_27 ⟨⟨by decide, by decide⟩, fun z => absurd z (by decide), fun _ => ?_⟩))
  -- the world behind the first stores
  obtain ⟨I0, hI0⟩ : ∃ I0, I0 = z_u (z_u (z_u (z_u (z_u (z_u (z_u (z_u (z_u (z_u (z_u (z_u (z_u I 1835 0 0) 1835 18 0) 1835 20 (-1)) 1835 19 0) 1835 21 (n : Int)) 1835 22 0) 1835 29 2) 1835 30 0) 1835 31 0) 1835 32 0) 1835 33 (-1)) 1835 37 0) 1835 34 0 := ⟨_, rfl⟩
  rw [← hI0]
  have m0 : ∀ a, ¬ a = 1835 → I0 a = I a := fun a ha => by
    rw [hI0, zu_ne ha, zu_ne ha, zu_ne ha, zu_ne ha, zu_ne ha, zu_ne ha, zu_ne ha, zu_ne ha, zu_ne ha, zu_ne ha, zu_ne ha, zu_ne ha, zu_ne ha]
  have mk : ∀ k, ¬ k = 0 → ¬ k = 18 → ¬ (19 ≤ k ∧ k ≤ 37) → I0 1835 k = I 1835 k := fun k h1 h2 h3 => by
    rw [hI0, zu_nk (by omega), zu_nk (by omega), zu_nk (by omega), zu_nk (by omega), zu_nk (by omega), zu_nk (by omega), zu_nk (by omega), zu_nk (by omega), zu_nk (by omega), zu_nk (by omega), zu_nk (by omega), zu_nk h2, zu_nk h1]
  have c0 : I0 1835 0 = 0 := by rw [hI0, zu_nk (by decide), zu_nk (by decide), zu_nk (by decide), zu_nk (by decide), zu_nk (by decide), zu_nk (by decide), zu_nk (by decide), zu_nk (by decide), zu_nk (by decide), zu_nk (by decide), zu_nk (by decide), zu_nk (by decide), zu_same]
  have c18 : I0 1835 18 = 0 := by rw [hI0, zu_nk (by decide), zu_nk (by decide), zu_nk (by decide), zu_nk (by decide), zu_nk (by decide), zu_nk (by decide), zu_nk (by decide), zu_nk (by decide), zu_nk (by decide), zu_nk (by decide), zu_nk (by decide), zu_same]
  have c20 : I0 1835 20 = -1 := by rw [hI0, zu_nk (by decide), zu_nk (by decide), zu_nk (by decide), zu_nk (by decide), zu_nk (by decide), zu_nk (by decide), zu_nk (by decide), zu_nk (by decide), zu_nk (by decide), zu_nk (by decide), zu_same]
  have c19 : I0 1835 19 = 0 := by rw [hI0, zu_nk (by decide), zu_nk (by decide), zu_nk (by decide), zu_nk (by decide), zu_nk (by decide), zu_nk (by decide), zu_nk (by decide), zu_nk (by decide), zu_nk (by decide), zu_same]
  have c21 : I0 1835 21 = (n : Int) := by rw [hI0, zu_nk (by decide), zu_nk (by decide), zu_nk (by decide), zu_nk (by decide), zu_nk (by decide), zu_nk (by decide), zu_nk (by decide), zu_nk (by decide), zu_same]
  have c22 : I0 1835 22 = ((0 : Nat) : Int) := by rw [hI0, zu_nk (by decide), zu_nk (by decide), zu_nk (by decide), zu_nk (by decide), zu_nk (by decide), zu_nk (by decide), zu_nk (by decide), zu_same]; rfl
  have c29 : I0 1835 29 = 2 := by rw [hI0, zu_nk (by decide), zu_nk (by decide), zu_nk (by decide), zu_nk (by decide), zu_nk (by decide), zu_nk (by decide), zu_same]
  have c30 : I0 1835 30 = 0 := by rw [hI0, zu_nk (by decide), zu_nk (by decide), zu_nk (by decide), zu_nk (by decide), zu_nk (by decide), zu_same]
  have c31 : I0 1835 31 = 0 := by rw [hI0, zu_nk (by decide), zu_nk (by decide), zu_nk (by decide), zu_nk (by decide), zu_same]
  have c32 : I0 1835 32 = 0 := by rw [hI0, zu_nk (by decide), zu_nk (by decide), zu_nk (by decide), zu_same]
  have c33 : I0 1835 33 = -1 := by rw [hI0, zu_nk (by decide), zu_nk (by decide), zu_same]
  have c37 : I0 1835 37 = 0 := by rw [hI0, zu_nk (by decide), zu_same]
  have c34 : I0 1835 34 = 0 := by rw [hI0, zu_same]
  clear hI0
  have lw : ∀ (m i : Nat) (I1 : Nat → Nat → Int), i + m = 16 → (∀ a, ¬ a = 2550 → I1 a = I0 a) → (∀ j, j < i → I1 2550 j = 0) → (∀ (I2 : Nat → Nat → Int), (∀ a, ¬ a = 2550 → I2 a = I0 a) → (∀ j, j < 16 → I2 2550 j = 0) → Cl sc d 190 [vr 1835] (z_cfg t, I2, J) (z_k sc d mt_188 false 114 [vr 1835, vi (n : Int), vi ((16 : Nat) : Int)] [] Q)) → Go sc d mt_188 94 [vr 1835, vi (n : Int), vi (i : Int)] [] (z_cfg t, I1, J) Q := by
    intro m
    induction m with
    | zero =>
      intro i I1 hi hf hr hk
      have hi : i = 16 := by omega
      subst hi
      exact b188_94 ⟨⟨by decide, by decide⟩, fun z => by omega, fun _ => hk I1 hf (fun j hj => hr j hj)⟩
    | succ m ih =>
      intro i I1 hi hf hr hk
      refine b188_94 ?_
      rw [Int.toNat_natCast, show (i : Int) + 1 = ((i + 1 : Nat) : Int) by omega, show znz 0 = 0 from znz_b false]
      refine ⟨⟨by omega, by omega⟩, fun _ => ⟨⟨by omega, by omega⟩, ih (i + 1) _ (by omega) (fun a ha => by rw [zu_ne ha]; exact hf a ha) (fun j hj => ?_) hk⟩, fun z => by omega⟩
      rw [zu_at]
      by_cases c : j = i
      · rw [if_pos c]
      · rw [if_neg c]; exact hr j (by omega)
  refine lw 16 0 I0 (by omega) (fun _ _ => rfl) (fun j hj => absurd hj (by omega)) (fun I1 f1 r1 => ?_)
  have i1 : I1 1835 = I0 1835 := f1 1835 (by decide)
  have A1 : RA I1 dIni false 0 := by
    refine ⟨⟨by rw [i1]; exact c29, by rw [i1]; exact c30, by rw [i1]; exact c31, by rw [i1]; exact c32, by rw [i1]; exact c33, by rw [i1]; exact c34, by rw [i1]; exact c37⟩, fun i hi => absurd hi (Nat.not_lt_zero _), fun i hi => absurd hi (Nat.not_lt_zero _), fun i j hi hj => ?_, fun i hi => absurd hi (Nat.not_lt_zero _)⟩
    rw [r1 _ (by omega)]
    show _ = ((((0 : Nat).testBit j).toNat : Nat) : Int)
    rw [Nat.zero_testBit]
    rfl
  have B1 : RBy I1 B := by
    unfold RBy
    rw [f1 2196 (by decide), m0 2196 (by decide)]
    exact hB
  have hn7 : n ≤ 700 := by omega
  have F1 : zF0 I J I1 J := ⟨fun a h1 h2 => by rw [f1 a (by omega)]; exact m0 a h1, fun k h1 h2 h3 => by rw [i1]; exact mk k h1 h2 h3, fun _ _ => rfl⟩
  have w0 : ∀ (I2 J2 : Nat → Nat → Int), zFm I1 J I2 J2 → zF0 I J I2 J2 ∧ I2 1835 0 = 0 ∧ I2 1835 18 = 0 := fun I2 J2 h => ⟨⟨fun a h1 h2 => (h.1 a h1 h2).trans (F1.1 a h1 h2), fun k h1 h2 h3 => (h.2.1 k h3).trans (F1.2.1 k h1 h2 h3), fun a ha => (h.2.2 a ha).trans (F1.2.2 a ha)⟩, by rw [h.2.1 0 (by decide), i1]; exact c0, by rw [h.2.1 18 (by decide), i1]; exact c18⟩
  -- the end
  have e191 : ∀ (I2 J2 : Nat → Nat → Int), zFm I1 J I2 J2 → RP I2 J2 B n (tAll B n).1 → (∀ q, (tAll B n).1 = .inl q → dOk (tAll B n).2.1 ∧ ∃ top, 2 * top ≤ 3 * q ∧ RA I2 (tAll B n).2.1 (tAll B n).2.2 top) → ∀ x2 : Int, Go sc d mt_188 191 [vr 1835, vi (n : Int), vi x2] [] (z_cfg t, I2, J2) Q := fun I2 J2 F2 P2 h2 x2 => by
    have g := w0 I2 J2 F2
    refine b188_191 (c198 (by omega) (fun d' _ => k198 P2 (b188_195 ?_)))
    cases hs : (tAll B n).1 with
    | inr e =>
      rw [hs] at P2
      obtain ⟨_, _, p', _, _, p19, p20, _⟩ := P2
      refine ⟨xgi _, fun _ => ?_, fun z => absurd rfl z⟩
      rw [p19]
      exact hbad e hs I2 J2 g.1 g.2.1 g.2.2 p20
    | inl q =>
      rw [hs] at P2
      have hq7 := P2.n7
      obtain ⟨o1, top, o2, o3⟩ := h2 q hs
      refine ⟨xgi _, fun z => absurd z (xgn _), fun _ => ?_⟩
      refine c218 (by omega) (fun d' _ => k218 (s := (tAll B n).1) o3 (by omega) o1 (fun I3 F3 R3 => b188_207 ?_))
      have R3 : RD I3 (tEnd (tAll B n)) (dHo (tEnd (tAll B n)) 0) (dLo (tEnd (tAll B n)) 0) := R3
      have o1' : dOk (tEnd (tAll B n)) := by
        unfold tEnd
        split
        · exact o1
        · exact o1.W w_all_ok
      refine c183 (by omega) (fun d' _ => k183 (by omega) R3 o1' (fun I4 F4 G4 => b188_211 ?_))
      have p20 : I2 1835 20 = -1 := by
        obtain ⟨_, _, p', _, _, _, _, p20⟩ := P2
        exact p20
      refine hgood q hs I4 J2 ⟨fun a ha => ?_, g.1.2.2⟩ ?_ ?_ ?_ (R3.fb2 F4) G4 o1'
      · rw [F4.1 a (by omega) (by omega) (by omega) (by omega) (by omega), F3.1 a (by omega) (by omega), g.1.1 a (by omega) (by omega)]
      · rw [F4.2 0 (by decide) (by decide) (by decide) (by decide) (by decide) (by decide) (by decide), F3.2 0 (by decide) (by decide)]; exact g.2.1
      · rw [F4.2 18 (by decide) (by decide) (by decide) (by decide) (by decide) (by decide) (by decide), F3.2 18 (by decide) (by decide)]; exact g.2.2
      · rw [F4.2 20 (by decide) (by decide) (by decide) (by decide) (by decide) (by decide) (by decide), F3.2 20 (by decide) (by decide)]; exact p20
  -- the clauses
  have lp : ∀ (m : Nat) (a : pA) (I2 J2 : Nat → Nat → Int) (x2 : Int), (∀ p, a.1 = .inl p → n ≤ p + m) → tAll B n = tRun B n m a → zFm I1 J I2 J2 → RP I2 J2 B n a.1 → (∀ q, a.1 = .inl q → dOk a.2.1 ∧ ∃ top, 2 * top ≤ 3 * q ∧ RA I2 a.2.1 a.2.2 top) → Go sc d mt_188 170 [vr 1835, vi (n : Int), vi x2] [] (z_cfg t, I2, J2) Q := by
    intro m
    induction m with
    | zero =>
      intro a I2 J2 x2 hm ea F2 P2 h2
      have ea : tAll B n = a := ea
      have end0 := e191 I2 J2 F2 (by rw [ea]; exact P2) (by rw [ea]; exact h2) x2
      refine b188_170 (c198 (by omega) (fun d' _ => k198 P2 (b188_174 ?_)))
      obtain ⟨s, D, w⟩ := a
      cases s with
      | inr e => exact ⟨xgi _, fun _ => end0, fun z => absurd rfl z⟩
      | inl p =>
        have tk := P2.tk2.1
        have z0 : xK B n p = 0 := by
          have := hm p rfl
          by_cases c : xK B n p = 0
          · exact c
          · have a := xK_lt c
            have b := (xS_r (B := B) P2.n7.1).1
            omega
        exact ⟨xgi _, fun _ => end0, fun _ => ⟨by rw [tk, z0]; exact ⟨by decide, by decide⟩, fun _ => end0, fun z => absurd (by rw [tk, z0]; rfl) z⟩⟩
    | succ m ih =>
      intro a I2 J2 x2 hm ea F2 P2 h2
      refine b188_170 (c198 (by omega) (fun d' _ => k198 P2 (b188_174 ?_)))
      obtain ⟨s, D, w⟩ := a
      cases s with
      | inr e =>
        have ea : tAll B n = (.inr e, D, w) := ea
        exact ⟨xgi _, fun _ => e191 I2 J2 F2 (by rw [ea]; exact P2) (by rw [ea]; exact h2) x2, fun z => absurd rfl z⟩
      | inl p =>
        have tk := P2.tk2.1
        have tr := P2.tk
        refine ⟨xgi _, fun z => absurd z (xgn _), fun _ => ⟨tr.2.1, fun z => ?_, fun z => ?_⟩⟩
        · have ea : tAll B n = (.inl p, D, w) := by
            rw [ea]
            show (if xK B n p = 0 then _ else _) = _
            rw [if_pos (by omega)]
          exact e191 I2 J2 F2 (by rw [ea]; exact P2) (by rw [ea]; exact h2) x2
        · obtain ⟨o1, top, o2, o3⟩ := h2 p rfl
          have o1 : dOk D := o1
          have P2 : RP I2 J2 B n (.inl p) := P2
          have ea : tAll B n = tRun B n m (tCl B n D w p) := by
            rw [ea]
            show (if xK B n p = 0 then _ else _) = _
            rw [if_neg (by omega)]
          have hmp := hm p rfl
          refine c201 (by omega) (fun d' _ => k201 (by omega) P2 o3 o2 o1 (fun I3 J3 F3 P3 h3 => b188_188 ?_))
          refine ih (tCl B n D w p) I3 J3 x2 (fun q z => ?_) ea (F2.tr F3) P3 (fun q z => ⟨(tCl_ok P2.n7.1 o1 z).2.1, h3 q z⟩)
          have := (tCl_ok P2.n7.1 o1 z).2.2
          omega
  refine c190 (by omega) (fun d' _ => k190 (by omega) B1 hn7 (by rw [i1]; exact c21) (by rw [i1]; exact c22) (Nat.zero_le _) (fun I2 J2 f2 g19 g20 T2 => b188_117 ?_))
  have P2 : RP I2 J2 B n (.inl 0) := ⟨B1.fr f2, hn7, 0, Nat.zero_le _, T2, rfl, by rw [g19, i1]; exact c19, by rw [g20, i1]; exact c20⟩
  have A2 := A1.y f2
  refine c194 (by omega) (fun d' _ => k194 (by omega) P2 (fun r hr hw => b188_121 ⟨⟨by omega, by omega⟩, fun r0 => ?_, fun r0 => ?_⟩))
  · have hw0 : xW B n 0 0 = true := (hw ⟨0, rfl⟩ 0 (by decide)).1 r0
    have eh : tHead B n = (xNG B n 59 (xNum B n 2 4 (.inl (xE B n 0))), d_S dIni (xV B n (xE B n 0)), false) := by unfold tHead; rw [if_pos hw0]
    refine c190 (by omega) (fun d' _ => k190s (by omega) P2 (fun I3 J3 f3 P3 => b188_128 ?_))
    refine c197 (by omega) (fun d' _ => k197 (lo := 2) (hi := 4) rfl rfl (by omega) (by omega) (by omega) P3 (fun I4 J4 v f4 P4 hv => b188_135 ?_))
    have P4 : RP I4 J4 B n (xNum B n 2 4 (.inl (xE B n 0))) := P4
    have P5 := P4.k (k := 29) (v := (v : Int)) (by decide)
    have F5 : zFm I1 J (z_u I4 1835 29 (v : Int)) J4 := (zFm.y ((f2.tr f3).tr f4)).tr (zFm.k (by decide))
    have go170 : ∀ (I6 J6 : Nat → Nat → Int) (x2 : Int), yF (z_u I4 1835 29 (v : Int)) J4 I6 J6 → RP I6 J6 B n (xNG B n 59 (xNum B n 2 4 (.inl (xE B n 0)))) → Go sc d mt_188 170 [vr 1835, vi (n : Int), vi x2] [] (z_cfg t, I6, J6) Q := fun I6 J6 x2 f6 P6 => by
      refine lp 700 (tHead B n) I6 J6 x2 (fun p _ => by omega) rfl (F5.tr (zFm.y f6)) (by rw [eh]; exact P6) (fun q z => ?_)
      rw [eh] at z ⊢
      have z : xNG B n 59 (xNum B n 2 4 (.inl (xE B n 0))) = .inl q := z
      have hg : ∃ q1, xNum B n 2 4 (.inl (xE B n 0)) = .inl q1 := by
        cases hs : xNum B n 2 4 (.inl (xE B n 0)) with
        | inl q1 => exact ⟨q1, rfl⟩
        | inr e' =>
          rw [hs] at z
          unfold xNG at z
          rw [if_neg (fun z => by cases z)] at z
          cases z
      obtain ⟨q1, e1⟩ := hg
      have ev : v = xV B n (xE B n 0) := hv ⟨q1, e1⟩
      refine ⟨dOk.ini.S (xNum_i e1) rfl rfl rfl, 0, by omega, ?_⟩
      show RA I6 (d_S dIni (xV B n (xE B n 0))) false 0
      rw [← ev]
      exact (((A2.y f3).y f4).sh).y f6
    have stop : ∀ (e : Nat × Nat) (I6 : Nat → Nat → Int) (x2 : Int), xNG B n 59 (xNum B n 2 4 (.inl (xE B n 0))) = .inr e → yF (z_u I4 1835 29 (v : Int)) J4 I6 J4 → RP I6 J4 B n (.inr e) → Go sc d mt_188 159 [vr 1835, vi (n : Int), vi x2] [] (z_cfg t, I6, J4) Q := fun e I6 x2 he f6 P6 => by
      refine b188_159 (c198 (by omega) (fun d' _ => k198 P6 (b188_163 ⟨xgi _, fun _ => ?_, fun z => absurd rfl z⟩)))
      exact go170 I6 J4 x2 f6 (by rw [he]; exact P6)
    refine c198 (by omega) (fun d' _ => k198 P5 (b188_142 ?_))
    cases hs : xNum B n 2 4 (.inl (xE B n 0)) with
    | inr e =>
      rw [hs] at P5 stop
      exact ⟨xgi _, fun _ => stop e _ _ rfl (yF.rf _ _) P5, fun z => absurd rfl z⟩
    | inl q1 =>
      rw [hs] at P5 stop go170
      refine ⟨xgi _, fun z => absurd z (xgn _), fun _ => ?_⟩
      refine c200 (by omega) (fun d' _ => k200 (c := 59) rfl (by decide) P5 (fun b hb => b188_151 ?_))
      have hb := hb ⟨q1, rfl⟩
      cases b with
      | false =>
        have es : xNG B n 59 (.inl q1) = .inr (1, xS B n q1) := by unfold xNG; rw [if_neg (by rw [← hb]; decide)]; rfl
        refine ⟨⟨by decide, by decide⟩, fun _ => ?_, fun z => absurd rfl z⟩
        exact c199 (by omega) (fun d' _ => k199 (f := 1) rfl (by decide) P5 (fun I6 f6 P6 => stop _ I6 _ es f6 P6))
      | true =>
        have es : xNG B n 59 (.inl q1) = .inl (xE B n q1) := by unfold xNG; rw [if_pos hb.symm]; rfl
        refine ⟨⟨by decide, by decide⟩, fun z => absurd z (by decide), fun _ => ?_⟩
        refine b188_159 (c198 (by omega) (fun d' _ => k198 P5 (b188_163 ⟨xgi _, fun z => absurd z (xgn _), fun _ => ?_⟩)))
        refine c190 (by omega) (fun d' _ => k190s (by omega) P5 (fun I6 J6 f6 P6 => ?_))
        exact go170 I6 J6 _ f6 (by rw [es]; exact P6)
  · have hw0 : ¬ xW B n 0 0 = true := fun z => r0 ((hw ⟨0, rfl⟩ 0 (by decide)).2 z)
    have eh : tHead B n = (.inl 0, dIni, false) := by unfold tHead; rw [if_neg hw0]
    refine lp 700 (tHead B n) I2 J2 _ (fun p _ => by omega) rfl (zFm.y f2) (by rw [eh]; exact P2) (fun q z => ?_)
    rw [eh] at z ⊢
    exact ⟨dOk.ini, 0, by omega, A2⟩
end
