/-! ===== the class: ways, reached, hint ===== -/
section
variable {sc : mS} {d : Nat} {t : zT} {I J : Nat → Nat → Int} {Q : zR → zW → Prop} {D : tD}
/-- Graph and Paths, measured from s by crossings -/
theorem kMeas {n s : Nat} (hd : 6 ≤ d) (hX : TX t I D) (hP : GP t I D n) (hn : n < 2147483648) (h0 : I 1057 0 = 1) (hG : GB t I D (acts D (-1)) (G0 D)) (hgb : t_gb t = t_rb t) (hs : gSp (G0 D) = false) (hsN : s < gN (G0 D)) {K : zR → zW → Prop}
    (h : ∀ (I' : Nat → Nat → Int), (∀ a, ¬ (1283 ≤ a ∧ a ≤ 1460) → I' a = I a) → TX t I' D → GP t I' D n → GB t I' D (acts D (-1)) (G0 D) → I' 1283 3 = ((false.toNat : Nat) : Int) → MZ D (G0 D) false (TT D false) s I' → K (.inl none) (z_cfg t, I', J)) : Cl sc d 55 [vr 1283, vr 1057, vi (s : Int), vi 0] (z_cfg t, I, J) K := by
  obtain ⟨hF, hTg, hTP, hTr⟩ := G0_F hG hs
  have hO := hG.2.2.2.2.1
  have hb := hP.1
  have hb2 := hP.2.1
  refine c55 (by omega) (fun d3 _ => k55 (T := TT D false) (tm := false) rfl rfl (by omega) hG hs hX.2.2.1.2.1 hF hsN (hTP false) ⟨by omega, by omega⟩ hP.2.2.1 hP.2.2.2.1 ⟨by omega, by omega⟩ (fun c1 c2 c3 => hP.get h0 hs c1 c2 c3) (fun I2 f2 a1 a2 a3 hZ => ?_))
  have hG2 := hG.to2 f2
  exact h I2 f2 (hX.w (fun a ha => f2 a (by omega))) (hP.mz h0 hgb hG2 (f2 1057 (by decide)) a1 a2 a3 (by have := hO.1.1; omega) (fun _ => hZ)) hG2 a3 hZ
noncomputable def wysA (D : tD) : Int := if gSp (G0 D) = true then -2 else if TT D false 0 = -1 then 0 else cw D (G0 D) (TT D false) (TT D false 0).toNat 0
theorem k74 {n : Nat} (hd : 8 ≤ d) (hX : TX t I D) (hP : GP t I D n) (hn : n + 1 < 2147483648)
    (h : ∀ (t' : zT) (I' J' : Nat → Nat → Int), tU t t' → FGx I I' J J' → TX t' I' D → GP t' I' D (n + 1) → (∀ a, a = 1481 ∨ a = 1672 ∨ a = 1716 → I' a = I a) → Q (.inl (some (vi (wysA D)))) (z_cfg t', I', J')) : Go sc d mt_74 0 [vr 42] [] (z_cfg t, I, J) Q := by
  refine b74_0 (c23 (by omega) (fun d' _ => k23 (by omega) hX hP hn (fun t1 I1 J1 hu f1 hX1 hP1 h01 hG1 hgb1 => b74_4 ?_)))
  have keep : ∀ a, a = 1481 ∨ a = 1672 ∨ a = 1716 → I1 a = I a := fun a ha => f1.1 a (by omega) (by omega) (by omega) (by omega) (by omega) (by omega) (by omega) (by omega) (by omega) (by omega)
  cases hs : gSp (G0 D) with
  | true =>
    have ea : wysA D = -2 := by unfold wysA; rw [if_pos hs]
    have := h t1 I1 J1 hu (FGx.fu f1) hX1 hP1 keep
    rw [ea] at this
    rw [if_pos rfl]
    exact ⟨⟨by decide, by decide⟩, fun _ => this, fun z => absurd rfl z⟩
  | false =>
    have ea : wysA D = if TT D false 0 = -1 then 0 else cw D (G0 D) (TT D false) (TT D false 0).toNat 0 := by unfold wysA; rw [if_neg (by rw [hs]; decide)]
    obtain ⟨hF, hTg, hTP, hTr⟩ := G0_F hG1 hs
    have hN := hG1.2.2.2.2.1.1
    rw [if_neg (by decide)]
    refine ⟨⟨by decide, by decide⟩, fun z => absurd z (by decide), fun _ => ?_⟩
    refine kMeas (s := 0) (by omega) hX1 hP1 (by omega) h01 hG1 hgb1 hs (by omega) (fun I2 f2 hX2 hP2 hG2 a3 hZ => b74_23 ?_)
    refine c70 (by omega) (fun d' _ => k70 (j := 0) rfl (by decide) (b74_31 ?_))
    have := h t1 I2 J1 hu ((FGx.fu f1).tr (FGx.o J1 (fun a b1 _ _ => f2 a (by omega)))) hX2 hP2 (fun a ha => by rw [f2 a (by omega)]; exact keep a ha)
    rw [ea] at this
    obtain ⟨-, hMG, hWC⟩ := hZ
    have hw0 := hWC 0 (by omega)
    have hL0 := hMG.2.2.2
    have hlow := (hTP false).2.1 0 (by omega)
    clear hTP hTr ea
    generalize TT D false = T at this hMG hWC hw0 hlow
    by_cases c : T 0 = -1
    · rw [if_pos c] at this
      rw [hw0.2 (fun z => by have := z.2.1; omega)]
      exact this
    · rw [if_neg c] at this
      have hon : onW T (I2 1332) 0 0 := ⟨by rw [hL0]; decide, by omega, by rw [hL0]; omega⟩
      rw [WC_cw hTg hMG hWC (T 0).toNat 0 (by omega) hon (by omega)]
      exact this
noncomputable def reA (D : tD) (x : Int) : Int := if gSp (G0 D) = true then -1 else rchA D (G0 D) (TT D false) x
theorem k147 {x1 : Int} {n : Nat} (hx : inR x1) (hd : 8 ≤ d) (hX : TX t I D) (hP : GP t I D n) (hn : n + 1 < 2147483648)
    (hno : ¬ (0 ≤ x1 ∧ x1 ≤ 3) → Q (.inr 0) (z_cfg (t_th t), z_zr I (aTh t), z_zr J (aTh t)))
    (h : (0 ≤ x1 ∧ x1 ≤ 3) → ∀ (t' : zT) (I' J' : Nat → Nat → Int), tU t t' → FGx I I' J J' → TX t' I' D → GP t' I' D (n + 1) → (∀ a, a = 1481 ∨ a = 1672 ∨ a = 1716 → I' a = I a) → Q (.inl (some (vi (reA D x1)))) (z_cfg t', I', J')) : Go sc d mt_147 0 [vr 42, vi x1] [] (z_cfg t, I, J) Q := by
  refine b147_0 (c148 (by omega) (fun d' _ => k148 hx ⟨by decide, by decide⟩ (fun hb => hno hb) (fun hr => b147_6 ?_)))
  have h := h hr
  refine c23 (by omega) (fun d' _ => k23 (by omega) hX hP hn (fun t1 I1 J1 hu f1 hX1 hP1 h01 hG1 hgb1 => b147_10 ?_))
  have keep : ∀ a, a = 1481 ∨ a = 1672 ∨ a = 1716 → I1 a = I a := fun a ha => f1.1 a (by omega) (by omega) (by omega) (by omega) (by omega) (by omega) (by omega) (by omega) (by omega) (by omega)
  have h1 := h t1 I1 J1 hu (FGx.fu f1) hX1 hP1 keep
  cases hs : gSp (G0 D) with
  | true =>
    have ea : reA D x1 = -1 := by unfold reA; rw [if_pos hs]
    rw [ea] at h1
    rw [if_pos rfl]
    exact ⟨⟨by decide, by decide⟩, fun _ => h1, fun z => absurd rfl z⟩
  | false =>
    have ea : reA D x1 = rchA D (G0 D) (TT D false) x1 := by unfold reA; rw [if_neg (by rw [hs]; decide)]
    obtain ⟨hF, hTg, hTP, hTr⟩ := G0_F hG1 hs
    have hO := hG1.2.2.2.2.1
    have hgi := hG1.gi hs
    rw [if_neg (by decide)]
    refine ⟨⟨by decide, by decide⟩, fun z => absurd z (by decide), fun _ => ⟨hx, ⟨fun c => ?_, fun c => ?_, fun c => ?_, trivial⟩, fun c => ?_⟩⟩
    · rw [ea] at h1
      unfold rchA at h1
      rw [if_pos c] at h1
      rw [hgi.2.2.1.1]
      exact h1
    · rw [ea] at h1
      unfold rchA at h1
      rw [if_neg (by omega), if_pos c] at h1
      rw [hgi.2.1]
      exact h1
    · have hT := hTP false
      refine c149 (by omega) (fun d' _ => k149 (ds := TT D false) (by omega) hG1 hs hF (fun k => ?_) (fun k e hk e1 e2 e3 => ?_) (fun I2 W f2 g2 g3 hso hcl => b147_71 ?_))
      · rw [TT_f]; exact dst_0
      · exact ((hT.2.2.1 k e hk ⟨e1, e2⟩ e3)).1
      · have hW : ∀ k, k < gN (G0 D) → (W k = true ↔ 0 ≤ TT D false k) := hope_iff (D := D) (g := G0 D) (ds := TT D false) (fun k => by rw [TT_f]; exact dst_0) (fun k u hu => by rw [TT_f] at hu ⊢; exact dst_dn hu) hTg hso hcl
        have ec : cW W (gN (G0 D)) = cW (hpW (TT D false)) (gN (G0 D)) := cW_cg _ (fun k hk => by
          unfold hpW
          cases hw : W k with
          | true => rw [decide_eq_true ((hW k hk).mp hw)]
          | false => rw [decide_eq_false (fun z => by have := (hW k hk).mpr z; rw [hw] at this; cases this)])
        have hf3 : ∀ a, ¬ a = 1460 → ¬ a = 1283 → I2 a = I1 a := f2
        have hX2 := hX1.w (I' := I2) (fun a ha => f2 a (by omega) (by omega))
        have hG2 := hG1.to3 (I' := I2) (fun a ha => f2 a (by omega) (by omega))
        have hP2 : GP t1 I2 D (n + 1) := by
          obtain ⟨p1, p2, p3, p4, p5⟩ := hP1
          have hbd : 1 ≤ I1 1057 1 := by
            rcases p5 with z | ⟨-, z, -⟩
            · rw [h01] at z; exact absurd z (by decide)
            · exact z
          unfold GP
          rw [f2 1057 (by decide) (by decide), g3, g2 2 (by decide), g2 3 (by decide)]
          refine ⟨p1, ⟨Int.le_refl _, p1.1⟩, p3, p4, Or.inr ⟨h01, hbd, hgb1, hG2, fun _ z => ?_⟩⟩
          omega
        have h2 := h t1 I2 J1 hu ((FGx.fu f1).tr (FGx.o J1 (fun a b1 _ _ => f2 a (by omega) (by omega)))) hX2 hP2 (fun a ha => by rw [f2 a (by omega) (by omega)]; exact keep a ha)
        rw [ea] at h2
        unfold rchA at h2
        rw [if_neg (by omega), if_neg (by omega), if_pos c] at h2
        rw [ec]
        exact h2
    · rw [ea] at h1
      unfold rchA at h1
      rw [if_neg (by omega), if_neg (by omega), if_neg (by omega)] at h1
      exact c151 (by omega) (fun d' _ => k151 hG1 hs (b147_79 h1))
end
