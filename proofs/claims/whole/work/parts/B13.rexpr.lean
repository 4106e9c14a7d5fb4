/-! ===== the reference's expressions: the loop's rules; expression ===== -/
section
variable {sc : mS} {d : Nat} {t : zT} {I J I0 J0 : Nat → Nat → Int} {Q : zR → zW → Prop} {B : Nat → Nat} {n : Nat} {D : tD} {base : Nat} {W O : List Int} {T : List Bool} {x1 : Int}
/-- an operand, called from the loop -/
theorem lop {p : Nat} {b : Bool} {v3 : zV} {K : zR → zW → Prop} (hd : 7 ≤ d) (hK : ∀ (I' J' : Nat → Nat → Int), Go sc d mt_210 35 [vr 1835, vi x1, vi 1, v3] [] (z_cfg t, I', J') Q → K (.inl none) (z_cfg t, I', J')) (hP : RP I J B n (.inl p)) (hF : YF I0 J0 I J base) (hV : YV I base W O T) (hb : yB1 base 0 p W O) (h : yQ sc d t B n base x1 I0 J0 Q b 0 p W O T) : Cl sc d 212 [vr 1835, vi ((b.toNat : Nat) : Int)] (z_cfg t, I, J) K := by
  refine c212 (by omega) (fun d' hd' => b212_0 (b212_4 ⟨⟨by decide, by decide⟩, fun z => absurd z (by decide), fun _ => ?_⟩))
  refine c198 (by omega) (fun d2 _ => k198 hP (b212_12 ⟨xgi _, fun z => absurd z (xgn _), fun _ => ?_⟩))
  exact h I J v3 _ 1 K hK (by decide) ⟨by decide, by decide⟩ hP hF hV hb d' hd'
theorem l35 {p : Nat} {v3 : zV} (hd : 4 ≤ d) (hP : RP I J B n (.inl p)) (h : ∀ r : Int, (-1 ≤ r ∧ r < 21) → (∀ k : Nat, k < 21 → (r = k ↔ xW B n p k = true)) → Go sc d mt_210 50 [vr 1835, vi x1, vi 1, v3] [vi r] (z_cfg t, I, J) Q) : Go sc d mt_210 35 [vr 1835, vi x1, vi 1, v3] [] (z_cfg t, I, J) Q := by
  refine b210_35 ⟨⟨by decide, by decide⟩, fun z => absurd z (by decide), fun _ => ?_⟩
  refine c198 (by omega) (fun d' _ => k198 hP (b210_43 ⟨xgi _, fun z => absurd z (xgn _), fun _ => ?_⟩))
  exact c194 (by omega) (fun d' _ => k194 (by omega) hP (fun r hr hw => h r hr (hw ⟨p, rfl⟩)))
theorem sg {p c : Nat} {ls st : List zV} {pc : Nat} (hd : 1 ≤ d) (hc : c < 256) (hP : RP I J B n (.inl p)) (h : Go sc d mt_210 (pc + 3) ls (vi (((xIsG B n c (.inl p)).toNat : Nat) : Int) :: st) (z_cfg t, I, J) Q) : Cl sc d 200 [vr 1835, vi (c : Int)] (z_cfg t, I, J) (z_k sc d mt_210 false pc ls st Q) := by
  refine c200 hd (fun d' _ => k200 (c := c) rfl hc hP (fun b hb => ?_))
  rw [hb ⟨p, rfl⟩]
  exact h
theorem bi (b : Bool) : inR ((b.toNat : Nat) : Int) := by cases b <;> exact ⟨by decide, by decide⟩
theorem bt {b : Bool} (h : ¬ ((b.toNat : Nat) : Int) = 0) : b = true := by cases b; exact absurd rfl h; rfl
theorem bf {b : Bool} (h : ((b.toNat : Nat) : Int) = 0) : b = false := by cases b; rfl; exact absurd h (by decide)
/-- no word of the loop: the signs -/
theorem l118 {p : Nat} {v3 : zV} (hd : 4 ≤ d) (hP : RP I J B n (.inl p)) (h0 : xOp B n 0 p = none) (h1 : xOp B n 1 p = none) (h : ∀ x3 : Int, (xIsG B n 60 (.inl p) = true ∨ xIsG B n 61 (.inl p) = true → Go sc d mt_210 133 [vr 1835, vi x1, vi 1, vi x3] [] (z_cfg t, I, J) Q) ∧ (xIsG B n 60 (.inl p) = false → xIsG B n 61 (.inl p) = false → Go sc d mt_210 192 [vr 1835, vi x1, vi 1, vi x3] [] (z_cfg t, I, J) Q)) : Go sc d mt_210 35 [vr 1835, vi x1, vi 1, v3] [] (z_cfg t, I, J) Q := by
  have w15 : ¬ xW B n p 15 = true := fun z => by
    have h0 : (if xW B n p 15 = true then some (1200 : Int) else none) = none := h0
    rw [if_pos z] at h0; cases h0
  have w14 : ¬ xW B n p 14 = true := fun z => by
    have h1 : (if xW B n p 14 = true then some (1201 : Int) else none) = none := h1
    rw [if_pos z] at h1; cases h1
  refine l35 hd hP (fun r hr hw => b210_50 ⟨⟨by omega, by omega⟩, fun z => absurd ((hw 14 (by decide)).1 z) w14, fun _ => ⟨fun z => absurd ((hw 15 (by decide)).1 z) w15, fun _ => ?_⟩⟩)
  refine sg (by omega) (by decide) hP (b210_121 ⟨bi _, fun z => ?_, fun z => (h r).1 (Or.inl (bt z))⟩)
  exact sg (by omega) (by decide) hP (b210_130 ⟨bi _, fun z2 => (h r).2 (bf z) (bf z2), fun z2 => (h r).1 (Or.inr (bt z2))⟩)
theorem l192 {p : Nat} {x3 : Int} (hd : 4 ≤ d) (hP : RP I J B n (.inl p)) (hs : xIsG B n 43 (.inl p) = true ∨ xIsG B n 45 (.inl p) = true → Go sc d mt_210 210 [vr 1835, vi x1, vi 1, vi x3] [] (z_cfg t, I, J) Q) (hp : xIsG B n 42 (.inl p) = true ∨ xIsG B n 47 (.inl p) = true → Go sc d mt_210 265 [vr 1835, vi x1, vi 1, vi x3] [] (z_cfg t, I, J) Q) (hn : xIsG B n 43 (.inl p) = false → xIsG B n 45 (.inl p) = false → xIsG B n 42 (.inl p) = false → xIsG B n 47 (.inl p) = false → Go sc d mt_210 309 [vr 1835, vi x1, vi 1, vi x3] [vi (((xIsG B n 41 (.inl p)).toNat : Nat) : Int)] (z_cfg t, I, J) Q) : Go sc d mt_210 192 [vr 1835, vi x1, vi 1, vi x3] [] (z_cfg t, I, J) Q := by
  refine b210_192 (sg (by omega) (by decide) hP (b210_198 ⟨bi _, fun z1 => ?_, fun z => hs (Or.inl (bt z))⟩))
  refine sg (by omega) (by decide) hP (b210_207 ⟨bi _, fun z2 => ?_, fun z => hs (Or.inr (bt z))⟩)
  refine sg (by omega) (by decide) hP (b210_253 ⟨bi _, fun z3 => ?_, fun z => hp (Or.inl (bt z))⟩)
  refine sg (by omega) (by decide) hP (b210_262 ⟨bi _, fun z4 => ?_, fun z => hp (Or.inr (bt z))⟩)
  exact sg (by omega) (by decide) hP (hn (bf z1) (bf z2) (bf z3) (bf z4))
theorem YV.flag {f b : Bool} (hV : YV I base W O (f :: T)) : yU I (z_u I 2582 (T.length + 1) ((b.toNat : Nat) : Int)) base ∧ YV (z_u I 2582 (T.length + 1) ((b.toNat : Nat) : Int)) base W O (b :: T) := by
  obtain ⟨v1, v2, v3, v4, v5, v6, v7, v8⟩ := hV
  refine ⟨⟨fun a _ _ _ h4 => zu_ne h4, fun k _ _ _ => by rw [zu_ne (by decide)], fun i _ => by rw [zu_ne (by decide)]⟩, ?_, ?_, ?_, ?_, ?_, ?_, v7, v8⟩
  · rw [zu_ne (by decide)]; exact v1
  · rw [zu_ne (by decide)]; exact v2
  · rw [zu_ne (by decide)]; exact v3
  · rw [zu_ne (by decide)]; exact v4
  · rw [zu_ne (by decide)]; exact v5
  · intro i hi
    have hl : (b :: T).length = T.length + 1 := rfl
    have v6 : ∀ i, i < T.length + 1 → I 2582 (T.length + 1 - i) = ((((f :: T).getD i false).toNat : Nat) : Int) := v6
    rw [hl] at hi ⊢
    cases i with
    | zero =>
      rw [Nat.sub_zero, zu_same]
      rfl
    | succ j =>
      rw [zu_nk (by omega)]
      exact v6 (j + 1) hi
theorem YV.dep {f : Bool} (hV : YV I base W O (f :: T)) : I 1835 36 = ((T.length + 1 : Nat) : Int) ∧ I 2582 (T.length + 1) = ((f.toNat : Nat) : Int) ∧ T.length + 1 ≤ 6 := ⟨hV.2.2.2.2.1, hV.2.2.2.2.2.1 0 (Nat.succ_pos _), hV.2.2.2.2.2.2.1⟩
theorem yr6 (hd : 7 ≤ d) (L : Nat) (o : Int) (p : Nat) (P W O : List Int) (f : Bool) (T : List Bool) (hL : L ≤ 4) (ho : xOp B n L p = some o) (hf : L = 2 → f = false) (hPh : yHi (yl L) P) (hWl : yLow (yl L) W) (hF : yQ sc d t B n base x1 I0 J0 Q (decide (L ≤ 1)) 0 (xE B n p) (yo o :: W) (O ++ P) ((if L ≤ 1 then false else if L = 2 then true else f) :: T)) : yH sc d t B n base x1 I0 J0 Q p (P ++ W) O (f :: T) := by
  intro I J v3 hP hFF hV hb
  have h7 := hP.n7
  have hk0 := (xOp_k ho).1
  have hE := xE_gt h7.1 hk0
  have hb1 := hb.1
  have hb2 := hb.2
  have hl : (P ++ W).length = P.length + W.length := List.length_append
  have hl2 : (O ++ P).length = O.length + P.length := List.length_append
  have hl3 : (yo o :: W).length = W.length + 1 := rfl
  have hbn : yB1 base 0 (xE B n p) (yo o :: W) (O ++ P) := ⟨by omega, by omega⟩
  have isW : ∀ k, xW B n p k = true → xK B n p = 1 := fun k z => (xW_iff.1 z).1
  have isG : ∀ c, xIsG B n c (.inl p) = true → xK B n p = 3 ∧ B (xS B n p) = c := fun c z => by rw [xIsG_v, decide_eq_true_iff] at z; exact z
  have noG : ∀ c c', xIsG B n c (.inl p) = true → ¬ c = c' → xIsG B n c' (.inl p) = false := fun c c' z ne => b_no (fun z2 => ne ((isG c z).2.symm.trans (isG c' z2).2))
  have noOp : ∀ c k, xIsG B n c (.inl p) = true → ¬ xW B n p k = true := fun c k z z2 => by have := (isG c z).1; have := isW k z2; omega
  have op0 : ¬ xW B n p 15 = true → xOp B n 0 p = none := fun z => by
    show (if xW B n p 15 = true then some (1200 : Int) else none) = none
    rw [if_neg z]
  have op1 : ¬ xW B n p 14 = true → xOp B n 1 p = none := fun z => by
    show (if xW B n p 14 = true then some (1201 : Int) else none) = none
    rw [if_neg z]
  have hL2 : L = 0 ∨ L = 1 ∨ L = 2 ∨ L = 3 ∨ L = 4 := by omega
  rcases hL2 with e | e | e | e | e <;> subst e
  · -- or
    have ho : (if xW B n p 15 = true then some (1200 : Int) else none) = some o := ho
    by_cases w : xW B n p 15 = true
    · rw [if_pos w] at ho
      cases ho
      refine l35 (by omega) hP (fun r hr hw => ?_)
      have er : r = 15 := (hw 15 (by decide)).2 w
      subst er
      refine b210_50 ⟨⟨by decide, by decide⟩, fun z => absurd z (by decide), fun _ => ⟨fun _ => b210_63 ⟨⟨by decide, by decide⟩, fun z => absurd z (by decide), fun _ => b210_75 ?_⟩, fun z => absurd rfl z⟩⟩
      refine c216 (by omega) (fun d' _ => k216 (g := 1) rfl (by decide) (by omega) P W O I hV hPh hWl (by omega) (by omega) (fun I1 U1 V1 => b210_78 ⟨⟨by decide, by decide⟩, fun z => absurd z (by decide), fun _ => b210_90 ?_⟩))
      refine c213 (by omega) (fun d' _ => k213 V1 (by omega) (by decide) (fun I2 U2 V2 => b210_93 ?_))
      rw [V2.dep.1, Int.toNat_natCast, show znz 0 = (((false).toNat : Nat) : Int) from znz_b false]
      have hdp := V2.dep.2.2
      refine ⟨⟨by omega, by omega⟩, ?_⟩
      have U3 := V2.flag (b := false)
      refine c190 (by omega) (fun d' _ => k190s (by omega) (((hP.u U1).u U2).u U3.1) (fun I4 J4 f4 P4 => b210_107 ?_))
      exact lop (b := true) hd (fun I' J' g => b210_112 (b210_354 g)) P4 ((((hFF.u U1).u U2).u U3.1).y f4) (U3.2.y f4) hbn hF
    · rw [if_neg w] at ho; cases ho
  · -- and
    have ho : (if xW B n p 14 = true then some (1201 : Int) else none) = some o := ho
    by_cases w : xW B n p 14 = true
    · rw [if_pos w] at ho
      cases ho
      refine l35 (by omega) hP (fun r hr hw => ?_)
      have er : r = 14 := (hw 14 (by decide)).2 w
      subst er
      refine b210_50 ⟨⟨by decide, by decide⟩, fun _ => b210_63 ⟨⟨by decide, by decide⟩, fun _ => b210_75 ?_, fun z => absurd rfl z⟩, fun z => absurd rfl z⟩
      refine c216 (by omega) (fun d' _ => k216 (g := 2) rfl (by decide) (by omega) P W O I hV hPh hWl (by omega) (by omega) (fun I1 U1 V1 => b210_78 ⟨⟨by decide, by decide⟩, fun _ => b210_90 ?_, fun z => absurd rfl z⟩))
      refine c213 (by omega) (fun d' _ => k213 V1 (by omega) (by decide) (fun I2 U2 V2 => b210_93 ?_))
      rw [V2.dep.1, Int.toNat_natCast, show znz 0 = (((false).toNat : Nat) : Int) from znz_b false]
      have hdp := V2.dep.2.2
      refine ⟨⟨by omega, by omega⟩, ?_⟩
      have U3 := V2.flag (b := false)
      refine c190 (by omega) (fun d' _ => k190s (by omega) (((hP.u U1).u U2).u U3.1) (fun I4 J4 f4 P4 => b210_107 ?_))
      exact lop (b := true) hd (fun I' J' g => b210_112 (b210_354 g)) P4 ((((hFF.u U1).u U2).u U3.1).y f4) (U3.2.y f4) hbn hF
    · rw [if_neg w] at ho; cases ho
  · -- a comparison
    rw [xOp_2] at ho
    have ef := hf rfl
    subst ef
    have go : (xIsG B n 60 (.inl p) = true ∧ o = 1202) ∨ (xIsG B n 60 (.inl p) = false ∧ xIsG B n 61 (.inl p) = true ∧ o = 1203) → Go sc d mt_210 35 [vr 1835, vi x1, vi 1, v3] [] (z_cfg t, I, J) Q := fun hz => by
      have hany : xIsG B n 60 (.inl p) = true ∨ xIsG B n 61 (.inl p) = true := by
        rcases hz with z | z
        · exact Or.inl z.1
        · exact Or.inr z.2.1
      have nw : ∀ k, ¬ xW B n p k = true := fun k => by
        rcases hany with z | z
        · exact noOp _ k z
        · exact noOp _ k z
      refine l118 (by omega) hP (op0 (nw 15)) (op1 (nw 14)) (fun x3 => ⟨fun _ => ?_, fun z1 z2 => ?_⟩)
      · refine b210_133 ?_
        have dp := hV.dep
        rw [dp.1, Int.toNat_natCast, dp.2.1]
        have hdp := dp.2.2
        refine ⟨⟨by omega, by omega⟩, ⟨by decide, by decide⟩, fun _ => ?_, fun z => absurd rfl z⟩
        refine c216 (by omega) (fun d' _ => k216 (g := 4) rfl (by decide) (by omega) P W O I hV hPh hWl (by omega) (by omega) (fun I1 U1 V1 => b210_150 ?_))
        have P1 := hP.u U1
        refine sg (by omega) (by decide) P1 (b210_157 ?_)
        have nx : ∀ y : Int, y = yo o → Go sc d mt_210 167 [vr 1835, vi x1, vi 1, vi x3] [vi y, vr 1835] (z_cfg t, I1, J) Q := fun y hy => by
          subst hy
          refine b210_167 (c213 (by omega) (fun d' _ => k213 V1 (by omega) (by rcases hz with z | z; rw [z.2]; decide; rw [z.2.2]; decide) (fun I2 U2 V2 => b210_170 ?_)))
          rw [V2.dep.1, Int.toNat_natCast, show znz 1 = (((true).toNat : Nat) : Int) from znz_b true]
          refine ⟨⟨by omega, by omega⟩, ?_⟩
          have U3 := V2.flag (b := true)
          refine c190 (by omega) (fun d' _ => k190s (by omega) ((P1.u U2).u U3.1) (fun I4 J4 f4 P4 => b210_184 ?_))
          exact lop (b := false) hd (fun I' J' g => b210_189 (b210_354 g)) P4 ((((hFF.u U1).u U2).u U3.1).y f4) (U3.2.y f4) hbn hF
        rcases hz with z | z
        · rw [z.1]
          exact ⟨bi _, fun w => absurd w (by decide), fun _ => nx 6 (by rw [z.2]; rfl)⟩
        · rw [z.1]
          exact ⟨bi _, fun _ => nx 7 (by rw [z.2.2]; rfl), fun w => absurd rfl w⟩
      · rcases hany with z | z
        · rw [z] at z1; cases z1
        · rw [z] at z2; cases z2
    by_cases c1 : xIsG B n 60 (.inl p) = true
    · rw [if_pos c1] at ho
      cases ho
      exact go (Or.inl ⟨c1, rfl⟩)
    · rw [if_neg c1] at ho
      by_cases c2 : xIsG B n 61 (.inl p) = true
      · rw [if_pos c2] at ho
        cases ho
        exact go (Or.inr ⟨b_no c1, c2, rfl⟩)
      · rw [if_neg c2] at ho; cases ho
  · -- a sum
    rw [xOp_3] at ho
    have go : (xIsG B n 43 (.inl p) = true ∧ o = 1204) ∨ (xIsG B n 43 (.inl p) = false ∧ xIsG B n 45 (.inl p) = true ∧ o = 1205) → Go sc d mt_210 35 [vr 1835, vi x1, vi 1, v3] [] (z_cfg t, I, J) Q := fun hz => by
      have hany : xIsG B n 43 (.inl p) = true ∨ xIsG B n 45 (.inl p) = true := by
        rcases hz with z | z
        · exact Or.inl z.1
        · exact Or.inr z.2.1
      have nw : ∀ k, ¬ xW B n p k = true := fun k => by
        rcases hany with z | z
        · exact noOp _ k z
        · exact noOp _ k z
      have ng : ∀ c, ¬ c = 43 → ¬ c = 45 → xIsG B n c (.inl p) = false := fun c h1 h2 => by
        rcases hany with z | z
        · exact noG _ c z (fun w => h1 w.symm)
        · exact noG _ c z (fun w => h2 w.symm)
      refine l118 (by omega) hP (op0 (nw 15)) (op1 (nw 14)) (fun x3 => ⟨fun z => ?_, fun _ _ => ?_⟩)
      · rw [ng 60 (by decide) (by decide), ng 61 (by decide) (by decide)] at z
        rcases z with z | z <;> cases z
      · refine l192 (by omega) hP (fun _ => b210_210 ?_) (fun z => ?_) (fun z1 z2 _ _ => ?_)
        · refine c216 (by omega) (fun d' _ => k216 (g := 5) rfl (by decide) (by omega) P W O I hV hPh hWl (by omega) (by omega) (fun I1 U1 V1 => b210_215 ?_))
          have P1 := hP.u U1
          refine sg (by omega) (by decide) P1 (b210_222 ?_)
          have nx : ∀ y : Int, y = yo o → Go sc d mt_210 232 [vr 1835, vi x1, vi 1, vi x3] [vi y, vr 1835] (z_cfg t, I1, J) Q := fun y hy => by
            subst hy
            refine b210_232 (c213 (by omega) (fun d' _ => k213 V1 (by omega) (by rcases hz with z | z; rw [z.2]; decide; rw [z.2.2]; decide) (fun I2 U2 V2 => b210_235 ?_)))
            refine c190 (by omega) (fun d' _ => k190s (by omega) (P1.u U2) (fun I4 J4 f4 P4 => b210_239 ?_))
            exact lop (b := false) hd (fun I' J' g => b210_244 (b210_354 g)) P4 (((hFF.u U1).u U2).y f4) (V2.y f4) hbn hF
          rcases hz with z | z
          · rw [z.1]
            exact ⟨bi _, fun w => absurd w (by decide), fun _ => nx 8 (by rw [z.2]; rfl)⟩
          · rw [z.1]
            exact ⟨bi _, fun _ => nx 9 (by rw [z.2.2]; rfl), fun w => absurd rfl w⟩
        · rw [ng 42 (by decide) (by decide), ng 47 (by decide) (by decide)] at z
          rcases z with z | z <;> cases z
        · rcases hany with z | z
          · rw [z] at z1; cases z1
          · rw [z] at z2; cases z2
    by_cases c1 : xIsG B n 43 (.inl p) = true
    · rw [if_pos c1] at ho
      cases ho
      exact go (Or.inl ⟨c1, rfl⟩)
    · rw [if_neg c1] at ho
      by_cases c2 : xIsG B n 45 (.inl p) = true
      · rw [if_pos c2] at ho
        cases ho
        exact go (Or.inr ⟨b_no c1, c2, rfl⟩)
      · rw [if_neg c2] at ho; cases ho
  · -- a product
    rw [xOp_4] at ho
    have go : (xIsG B n 42 (.inl p) = true ∧ o = 1206) ∨ (xIsG B n 42 (.inl p) = false ∧ xIsG B n 47 (.inl p) = true ∧ o = 1207) → Go sc d mt_210 35 [vr 1835, vi x1, vi 1, v3] [] (z_cfg t, I, J) Q := fun hz => by
      have hany : xIsG B n 42 (.inl p) = true ∨ xIsG B n 47 (.inl p) = true := by
        rcases hz with z | z
        · exact Or.inl z.1
        · exact Or.inr z.2.1
      have nw : ∀ k, ¬ xW B n p k = true := fun k => by
        rcases hany with z | z
        · exact noOp _ k z
        · exact noOp _ k z
      have ng : ∀ c, ¬ c = 42 → ¬ c = 47 → xIsG B n c (.inl p) = false := fun c h1 h2 => by
        rcases hany with z | z
        · exact noG _ c z (fun w => h1 w.symm)
        · exact noG _ c z (fun w => h2 w.symm)
      refine l118 (by omega) hP (op0 (nw 15)) (op1 (nw 14)) (fun x3 => ⟨fun z => ?_, fun _ _ => ?_⟩)
      · rw [ng 60 (by decide) (by decide), ng 61 (by decide) (by decide)] at z
        rcases z with z | z <;> cases z
      · refine l192 (by omega) hP (fun z => ?_) (fun _ => b210_265 ?_) (fun _ _ z1 z2 => ?_)
        · rw [ng 43 (by decide) (by decide), ng 45 (by decide) (by decide)] at z
          rcases z with z | z <;> cases z
        · refine c216 (by omega) (fun d' _ => k216 (g := 6) rfl (by decide) (by omega) P W O I hV hPh hWl (by omega) (by omega) (fun I1 U1 V1 => b210_271 ?_))
          have P1 := hP.u U1
          refine sg (by omega) (by decide) P1 (b210_278 ?_)
          have nx : ∀ y : Int, y = yo o → Go sc d mt_210 288 [vr 1835, vi x1, vi 1, vi x3] [vi y, vr 1835] (z_cfg t, I1, J) Q := fun y hy => by
            subst hy
            refine b210_288 (c213 (by omega) (fun d' _ => k213 V1 (by omega) (by rcases hz with z | z; rw [z.2]; decide; rw [z.2.2]; decide) (fun I2 U2 V2 => b210_291 ?_)))
            refine c190 (by omega) (fun d' _ => k190s (by omega) (P1.u U2) (fun I4 J4 f4 P4 => b210_295 ?_))
            exact lop (b := false) hd (fun I' J' g => b210_300 (b210_354 g)) P4 (((hFF.u U1).u U2).y f4) (V2.y f4) hbn hF
          rcases hz with z | z
          · rw [z.1]
            exact ⟨bi _, fun w => absurd w (by decide), fun _ => nx 10 (by rw [z.2]; rfl)⟩
          · rw [z.1]
            exact ⟨bi _, fun _ => nx 11 (by rw [z.2.2]; rfl), fun w => absurd rfl w⟩
        · rcases hany with z | z
          · rw [z] at z1; cases z1
          · rw [z] at z2; cases z2
    by_cases c1 : xIsG B n 42 (.inl p) = true
    · rw [if_pos c1] at ho
      cases ho
      exact go (Or.inl ⟨c1, rfl⟩)
    · rw [if_neg c1] at ho
      by_cases c2 : xIsG B n 47 (.inl p) = true
      · rw [if_pos c2] at ho
        cases ho
        exact go (Or.inr ⟨b_no c1, c2, rfl⟩)
      · rw [if_neg c2] at ho; cases ho
/-- no operator of the loop here -/
theorem l309 {p : Nat} {f : Bool} {v3 : zV} (hd : 4 ≤ d) (hP : RP I J B n (.inl p)) (hV : YV I base W O (f :: T)) (hn : ∀ L, L ≤ 4 → ¬ L = 2 → xOp B n L p = none) (h2 : xOp B n 2 p = none ∨ f = true) (h : ∀ x3 : Int, Go sc d mt_210 309 [vr 1835, vi x1, vi 1, vi x3] [vi (((xIsG B n 41 (.inl p)).toNat : Nat) : Int)] (z_cfg t, I, J) Q) : Go sc d mt_210 35 [vr 1835, vi x1, vi 1, v3] [] (z_cfg t, I, J) Q := by
  have n3 := hn 3 (by decide) (by decide)
  have n4 := hn 4 (by decide) (by decide)
  rw [xOp_3] at n3
  rw [xOp_4] at n4
  have z43 : ¬ xIsG B n 43 (.inl p) = true := fun z => by rw [if_pos z] at n3; cases n3
  rw [if_neg z43] at n3
  have z45 : ¬ xIsG B n 45 (.inl p) = true := fun z => by rw [if_pos z] at n3; cases n3
  have z42 : ¬ xIsG B n 42 (.inl p) = true := fun z => by rw [if_pos z] at n4; cases n4
  rw [if_neg z42] at n4
  have z47 : ¬ xIsG B n 47 (.inl p) = true := fun z => by rw [if_pos z] at n4; cases n4
  have at192 : ∀ x3 : Int, Go sc d mt_210 192 [vr 1835, vi x1, vi 1, vi x3] [] (z_cfg t, I, J) Q := fun x3 =>
    l192 hd hP (fun z => absurd z (fun z => z.elim z43 z45)) (fun z => absurd z (fun z => z.elim z42 z47)) (fun _ _ _ _ => h x3)
  refine l118 hd hP (hn 0 (by decide) (by decide)) (hn 1 (by decide) (by decide)) (fun x3 => ⟨fun z => ?_, fun _ _ => at192 x3⟩)
  have ef : f = true := by
    rcases h2 with w | w
    · rw [xOp_2] at w
      by_cases c1 : xIsG B n 60 (.inl p) = true
      · rw [if_pos c1] at w; cases w
      · rw [if_neg c1] at w
        by_cases c2 : xIsG B n 61 (.inl p) = true
        · rw [if_pos c2] at w; cases w
        · exact absurd z (fun z => z.elim c1 c2)
    · exact w
  subst ef
  have dp := hV.dep
  refine b210_133 ?_
  rw [dp.1, Int.toNat_natCast, dp.2.1]
  have hdp := dp.2.2
  exact ⟨⟨by omega, by omega⟩, ⟨by decide, by decide⟩, fun z => absurd z (by decide), fun _ => at192 x3⟩
theorem yr9 (hd : 7 ≤ d) (p : Nat) (P W O : List Int) (f : Bool) (T : List Bool) (h41 : xIsG B n 41 (.inl p) = true) (hT : ¬ T = []) (hPh : yHi 0 P) (hH : yH sc d t B n base x1 I0 J0 Q (xE B n p) W (O ++ P) T) : yH sc d t B n base x1 I0 J0 Q p (P ++ 12 :: W) O (f :: T) := by
  intro I J v3 hP hFF hV hb
  have h7 := hP.n7
  have hE := xE_gt h7.1 (xIsG_k h41)
  have hb1 := hb.1
  have hb2 := hb.2
  have hl : (P ++ 12 :: W).length = P.length + (W.length + 1) := List.length_append
  have hl2 : (O ++ P).length = O.length + P.length := List.length_append
  have isG : xK B n p = 3 ∧ B (xS B n p) = 41 := by rw [xIsG_v, decide_eq_true_iff] at h41; exact h41
  have ng : ∀ c, ¬ c = 41 → ¬ xIsG B n c (.inl p) = true := fun c hc z => by rw [xIsG_v, decide_eq_true_iff] at z; omega
  have nw : ∀ k, ¬ xW B n p k = true := fun k z => by have := (xW_iff.1 z).1; omega
  have hno : ∀ L, L ≤ 4 → xOp B n L p = none := fun L hL => by
    have hL2 : L = 0 ∨ L = 1 ∨ L = 2 ∨ L = 3 ∨ L = 4 := by omega
    rcases hL2 with e | e | e | e | e <;> subst e
    · show (if xW B n p 15 = true then some (1200 : Int) else none) = none
      rw [if_neg (nw 15)]
    · show (if xW B n p 14 = true then some (1201 : Int) else none) = none
      rw [if_neg (nw 14)]
    · rw [xOp_2, if_neg (ng 60 (by decide)), if_neg (ng 61 (by decide))]
    · rw [xOp_3, if_neg (ng 43 (by decide)), if_neg (ng 45 (by decide))]
    · rw [xOp_4, if_neg (ng 42 (by decide)), if_neg (ng 47 (by decide))]
  have hTl : 1 ≤ T.length := by
    cases T with
    | nil => exact absurd rfl hT
    | cons a T => exact Nat.succ_le_succ (Nat.zero_le _)
  refine l309 (by omega) hP hV (fun L hL _ => hno L hL) (Or.inl (hno 2 (by decide))) (fun x3 => b210_309 ?_)
  have dp := hV.dep
  rw [h41, dp.1]
  refine ⟨bi _, fun z => absurd z (by decide), fun _ => ⟨⟨by omega, by omega⟩, fun _ => ?_, fun z => absurd (by omega) z⟩⟩
  refine c216 (by omega) (fun d' _ => k216 (g := 0) rfl (by decide) (by omega) P (12 :: W) O I hV hPh (yLow.cons (Or.inl rfl)) (by omega) (by show P.length + (W.length + 1) ≤ 720; omega) (fun I1 U1 V1 => b210_325 ?_))
  obtain ⟨v1, v2, v3', v4, v5, v6, v7, v8⟩ := V1
  have v1 : I1 1835 35 = ((W.length + 1 : Nat) : Int) := v1
  have v5 : I1 1835 36 = ((T.length + 1 : Nat) : Int) := v5
  have v6 : ∀ i, i < T.length + 1 → I1 2582 (T.length + 1 - i) = ((((f :: T).getD i false).toNat : Nat) : Int) := v6
  have v7 : T.length + 1 ≤ 6 := v7
  rw [v1, v5, show ((W.length + 1 : Nat) : Int) - 1 = ((W.length : Nat) : Int) by omega, show ((T.length + 1 : Nat) : Int) - 1 = ((T.length : Nat) : Int) by omega]
  have U2 : yU I1 (z_u (z_u I1 1835 35 ((W.length : Nat) : Int)) 1835 36 ((T.length : Nat) : Int)) base := ⟨fun a h1 _ _ _ => by rw [zu_ne h1, zu_ne h1], fun k _ h2 h3 => by rw [zu_nk h3, zu_nk h2], fun i _ => by rw [zu_ne (by decide), zu_ne (by decide)]⟩
  have V2 : YV (z_u (z_u I1 1835 35 ((W.length : Nat) : Int)) 1835 36 ((T.length : Nat) : Int)) base W (O ++ P) T := by
    refine ⟨?_, ?_, ?_, ?_, ?_, ?_, by omega, fun a ha => v8 a (List.mem_cons_of_mem _ ha)⟩
    · rw [zu_nk (by decide), zu_same]
    · rw [zu_ne (by decide), zu_ne (by decide)]; exact arr_tl v2
    · rw [zu_nk (by decide), zu_nk (by decide)]; exact v3'
    · rw [zu_ne (by decide), zu_ne (by decide)]; exact v4
    · rw [zu_same]
    · intro i hi
      rw [zu_ne (by decide), zu_ne (by decide), show T.length - i = T.length + 1 - (i + 1) by omega]
      exact v6 (i + 1) (by omega)
  refine c190 (by omega) (fun d' _ => k190s (by omega) ((hP.u U1).u U2) (fun I4 J4 f4 P4 => b210_349 (b210_354 ?_)))
  exact hH I4 J4 _ P4 (((hFF.u U1).u U2).y f4) (V2.y f4) ⟨by omega, by omega⟩
theorem yr10a (hd : 7 ≤ d) (p : Nat) (P O : List Int) (f : Bool) (hn : ∀ L, L ≤ 4 → ¬ L = 2 → xOp B n L p = none) (h2 : xOp B n 2 p = none ∨ f = true) (hPh : yHi 0 P) (hEn : yE t B n base x1 I0 J0 Q p (O ++ P)) : yH sc d t B n base x1 I0 J0 Q p P O [f] := by
  intro I J v3 hP hFF hV hb
  have h7 := hP.n7
  have hb1 := hb.1
  have hb2 := hb.2
  have hl2 : (O ++ P).length = O.length + P.length := List.length_append
  have dp := hV.dep
  have dp1 : I 1835 36 = 1 := dp.1
  have end0 : ∀ x3 : Int, Go sc d mt_210 352 [vr 1835, vi x1, vi 1, vi x3] [] (z_cfg t, I, J) Q := fun x3 => by
    refine b210_352 (b210_354 (b210_35 ⟨⟨by decide, by decide⟩, fun _ => ?_, fun z => absurd rfl z⟩))
    refine b210_357 (c198 (by omega) (fun d' _ => k198 hP (b210_361 ⟨xgi _, fun z => absurd z (xgn _), fun _ => ⟨by rw [dp1]; exact ⟨by decide, by decide⟩, fun z => by omega, fun _ => ?_⟩⟩)))
    have hV : YV I base (P ++ []) O [f] := by rw [List.append_nil]; exact hV
    refine b210_377 (c216 (by omega) (fun d' _ => k216 (g := 0) rfl (by decide) (by omega) P [] O I hV hPh (fun a W' e => by cases e) (by omega) (by show P.length + 0 ≤ 720; omega) (fun I1 U1 V1 => b210_382 ?_)))
    refine c215 (by omega) (fun d' _ => k215 V1 (by omega) (fun I2 U2 V2 => b210_387 ?_))
    refine hEn I2 J ((hP.u U1).u U2) ((hFF.u U1).u U2) ?_ V2.2.2.2.1 (by omega)
    rw [V2.2.2.1, List.length_append]
    show ((base + ((O ++ P).length + 1) : Nat) : Int) = _
    omega
  refine l309 (by omega) hP hV hn h2 (fun x3 => b210_309 ⟨bi _, fun _ => end0 x3, fun _ => ⟨by rw [dp1]; exact ⟨by decide, by decide⟩, fun z => by omega, fun _ => end0 x3⟩⟩)
theorem yr10b (hd : 7 ≤ d) (p : Nat) (W O : List Int) (f : Bool) (T : List Bool) (hn : ∀ L, L ≤ 4 → ¬ L = 2 → xOp B n L p = none) (h2 : xOp B n 2 p = none ∨ f = true) (hT : ¬ T = []) (h41 : xIsG B n 41 (.inl p) = false) (hZ : yZ t B n base x1 I0 J0 Q (1, xS B n p)) : yH sc d t B n base x1 I0 J0 Q p W O (f :: T) := by
  intro I J v3 hP hFF hV hb
  have h7 := hP.n7
  have hb1 := hb.1
  have hb2 := hb.2
  have dp := hV.dep
  have hTl : 1 ≤ T.length := by
    cases T with
    | nil => exact absurd rfl hT
    | cons a T => exact Nat.succ_le_succ (Nat.zero_le _)
  refine l309 (by omega) hP hV hn h2 (fun x3 => b210_309 ?_)
  rw [h41, dp.1]
  refine ⟨bi _, fun _ => ?_, fun z => absurd rfl z⟩
  refine b210_352 (b210_354 (b210_35 ⟨⟨by decide, by decide⟩, fun _ => ?_, fun z => absurd rfl z⟩))
  refine b210_357 (c198 (by omega) (fun d' _ => k198 hP (b210_361 ?_)))
  rw [dp.1]
  refine ⟨xgi _, fun z => absurd z (xgn _), fun _ => ⟨⟨by omega, by omega⟩, fun _ => ?_, fun z => absurd (by omega) z⟩⟩
  exact c199 (by omega) (fun d' _ => k199 (f := 1) rfl (by decide) hP (fun I1 f1 P1 => l377z (by omega) P1 (hFF.y f1) (hV.y f1) (by omega) hZ))
theorem yrAll (hd : 7 ≤ d) (hL : RLt I0 D) : YR B n D (yQ sc d t B n base x1 I0 J0 Q) (yH sc d t B n base x1 I0 J0 Q) (yZ t B n base x1 I0 J0 Q) (yE t B n base x1 I0 J0 Q) :=
  ⟨fun k p W O T _ hw hk hF => yr1 hd k p hw hk hF, fun p W O T _ hw hZ => yr2 hd p hw hZ, fun b k p W O T _ hb h40 hF hZ => yr3 hd b k p hb h40 hF hZ, fun b k p W O T nst _ hb h40 hZ hH => yr5 hd hL b k p nst hb h40 hZ hH, fun L o p P W O f T _ hL2 ho hf hPh hWl hF => yr6 hd L o p P W O f T hL2 ho hf hPh hWl hF, fun p P W O f T _ h41 hT hPh hH => yr9 hd p P W O f T h41 hT hPh hH, fun p P O f _ hn h2 hPh hEn => yr10a hd p P O f hn h2 hPh hEn, fun p W O f T _ hn h2 hT h41 hZ => yr10b hd p W O f T hn h2 hT h41 hZ⟩
/-- an expression, the reference -/
theorem k210 {p : Nat} (hd : 8 ≤ d) (hP : RP I J B n (.inl p)) (hL : RLt I D) (h34 : I 1835 34 = (base : Int)) (hb : 2 * base ≤ 3 * p) (he : ∀ e, gExp B n D 6 p = .inl e → ∀ (I' J' : Nat → Nat → Int), RP I' J' B n (.inr e) → YF I J I' J' base → Q (.inl (some (vi (base : Int)))) (z_cfg t, I', J'))
    (hk : ∀ C q, gExp B n D 6 p = .inr (C, q) → ∀ (I' J' : Nat → Nat → Int), RP I' J' B n (.inl q) → YF I J I' J' base → I' 1835 34 = ((base + (C.flatMap encR).length + 1 : Nat) : Int) → rowAt (I' 2484) base (C.flatMap encR ++ [0]) → 2 * (base + (C.flatMap encR).length) ≤ 3 * q + 1 → Q (.inl (some (vi (base : Int)))) (z_cfg t, I', J')) : Go sc d mt_210 0 [vr 1835, vn, vn, vn] [] (z_cfg t, I, J) Q := by
  have h7 := hP.n7
  refine b210_0 (c198 (by omega) (fun d' _ => k198 hP (b210_9 ⟨xgi _, fun z => absurd z (xgn _), fun _ => ?_⟩)))
  rw [h34]
  have U1 : yU I (z_u (z_u I 1835 35 0) 1835 36 0) base := ⟨fun a h1 _ _ _ => by rw [zu_ne h1, zu_ne h1], fun k _ h2 h3 => by rw [zu_nk h3, zu_nk h2], fun i _ => by rw [zu_ne (by decide), zu_ne (by decide)]⟩
  have V1 : YV (z_u (z_u I 1835 35 0) 1835 36 0) base [] [] [] := by
    refine ⟨?_, ?_, ?_, ?_, ?_, ?_, by decide, fun a ha => absurd ha List.not_mem_nil⟩
    · rw [zu_nk (by decide), zu_same]; rfl
    · intro i hi; exact absurd hi (Nat.not_lt_zero _)
    · rw [zu_nk (by decide), zu_nk (by decide)]; exact h34
    · intro i x hi; cases hi
    · rw [zu_same]; rfl
    · intro i hi; exact absurd hi (Nat.not_lt_zero _)
  refine c211 (by omega) (fun d' _ => k211 (by omega) (hP.u U1) V1 (fun _ I2 U2 V2 => b210_28 ?_) (fun z => absurd (by decide) z))
  refine lop (b := true) (v3 := vn) (I0 := I) (J0 := J) (x1 := (base : Int)) (by omega) (fun I' J' g => b210_33 g) ((hP.u U1).u U2) (((YF.rf I J base).u U1).u U2) V2 ⟨by show 2 * (base + 0 + 0) ≤ 3 * p + 0; omega, Nat.zero_le _⟩ ?_
  refine yMain (yrAll (by omega) hL) h7.2 h7.1 [] (fun e ee I' J' P' F' => he e ee I' J' P' F') (fun C q ec I' J' P' F' g1 g2 g3 => ?_)
  exact hk C q ec I' J' P' F' g1 g2 g3
end
