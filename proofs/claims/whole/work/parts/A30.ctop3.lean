/-! ===== the class: hint, laws, size, the kept way ===== -/
section
variable {sc : mS} {d : Nat} {t : zT} {I J : Nat → Nat → Int} {Q : zR → zW → Prop} {D : tD} {K : Option (List (Nat × Nat × Nat))}
theorem fI_at {X : Nat → Nat} {n s k0 : Nat} (hk : k0 < n) (hx : X k0 = s) (inj : ∀ a b, a < n → b < n → X a = X b → a = b) : fI X n s = (k0 : Int) := by
  unfold fI
  cases hf : fnd X n s with
  | none => exact absurd hx (fnd_none hf k0 hk)
  | some i =>
    obtain ⟨h1, h2⟩ := fnd_some hf
    have := inj i k0 h1 hk (h2.trans hx.symm)
    rw [this]
noncomputable def hnA (D : tD) (k0 : Nat) (x : Int) : Int := if gSp (G0 D) = true then -2 else hintA D (G0 D) (TT D false) k0 x
theorem k180 {x1 : Int} {n mk k0 : Nat} {ps pm : Nat → Nat} {lw : Int} (hx : inR x1) (hd : 8 ≤ d) (hX : TX t I D) (hP : GP t I D n) (hn : n + 1 < 2147483648) (hPC : PC I mk ps pm lw) (hPO : PO D mk ps pm) (hk0 : gSp (G0 D) = false → k0 < gN (G0 D) ∧ gX (G0 D) k0 = ps mk)
    (hno : ¬ (0 ≤ x1 ∧ x1 ≤ 3) → Q (.inr 0) (z_cfg (t_th t), z_zr I (aTh t), z_zr J (aTh t)))
    (h : (0 ≤ x1 ∧ x1 ≤ 3) → ∀ (t' : zT) (I' J' : Nat → Nat → Int), tU t t' → FGx I I' J J' → TX t' I' D → GP t' I' D (n + 1) → (∀ a, a = 1481 ∨ a = 1672 ∨ a = 1716 → I' a = I a) → Q (.inl (some (vi (hnA D k0 x1)))) (z_cfg t', I', J')) : Go sc d mt_180 0 [vr 42, vi x1, vn] [] (z_cfg t, I, J) Q := by
  refine b180_0 (c148 (by omega) (fun d' _ => k148 hx ⟨by decide, by decide⟩ (fun hb => hno hb) (fun hr => b180_6 ?_)))
  have h := h hr
  refine c23 (by omega) (fun d' _ => k23 (by omega) hX hP hn (fun t1 I1 J1 hu f1 hX1 hP1 h01 hG1 hgb1 => b180_10 ?_))
  have keep : ∀ a, a = 1481 ∨ a = 1672 ∨ a = 1716 → I1 a = I a := fun a ha => f1.1 a (by omega) (by omega) (by omega) (by omega) (by omega) (by omega) (by omega) (by omega) (by omega) (by omega)
  have kp2 : ∀ a, a = 1732 ∨ a = 1780 → I1 a = I a := fun a ha => f1.1 a (by omega) (by omega) (by omega) (by omega) (by omega) (by omega) (by omega) (by omega) (by omega) (by omega)
  have h1 := h t1 I1 J1 hu (FGx.fu f1) hX1 hP1 keep
  cases hs : gSp (G0 D) with
  | true =>
    have ea : hnA D k0 x1 = -2 := by unfold hnA; rw [if_pos hs]
    rw [ea] at h1
    rw [if_pos rfl]
    exact ⟨⟨by decide, by decide⟩, fun _ => h1, fun z => absurd rfl z⟩
  | false =>
    have ea : hnA D k0 x1 = hintA D (G0 D) (TT D false) k0 x1 := by unfold hnA; rw [if_neg (by rw [hs]; decide)]
    obtain ⟨hF, hTg, hTP, hTr⟩ := G0_F hG1 hs
    have hO := hG1.2.2.2.2.1
    have hD := hG1.2.2.1
    obtain ⟨hkN, hkx⟩ := hk0 hs
    have hmk := hPO.1
    have hst := (hPO.2.2.2 mk (Nat.le_refl _)).1
    rw [if_neg (by decide)]
    refine ⟨⟨by decide, by decide⟩, fun z => absurd z (by decide), fun _ => ?_⟩
    refine c89 (by omega) (fun d' _ => k89 (mk := mk) (v := (ps mk : Int)) (by rw [kp2 1732 (by omega)]; exact hPC.1) hmk (by rw [kp2 1780 (by omega)]; exact (hPC.2.2 mk (Nat.le_refl _)).1) (b180_27 ?_))
    obtain ⟨Tc, hCS⟩ := (hG1.gi hs).2.2.1.2.1
    refine c53 (by omega) (fun d' _ => k53 rfl (by omega) hCS hO.2.2.2.2.1 hst.1 (b180_30 ?_))
    rw [fI_at hkN hkx hO.2.2.2.2.1]
    refine kMeas (s := k0) (by omega) hX1 hP1 (by omega) h01 hG1 hgb1 hs hkN (fun I2 f2 hX2 hP2 hG2 a3 hZ => b180_44 ?_)
    have h2 := h t1 I2 J1 hu ((FGx.fu f1).tr (FGx.o J1 (fun a b1 _ _ => f2 a (by omega)))) hX2 hP2 (fun a ha => by rw [f2 a (by omega)]; exact keep a ha)
    rw [ea] at h2
    have hT := hTP false
    have hTk : -1 ≤ TT D false k0 ∧ TT D false k0 ≤ 2000 := by rw [TT_f]; exact dst_in hTg hO.1.1 hkN
    clear hTP hTr ea
    generalize TT D false = T at h2 hZ hT hTk
    have hL0 := hZ.2.1.2.2.2
    unfold hintA at h2
    have e0 := hZ.1
    have end58 : (x1 = 0 ∨ ¬ 0 < T k0) → Go sc d mt_180 58 [vr 42, vi x1, vi (k0 : Int)] [] (z_cfg t1, I2, J1) Q := by
      intro hor
      refine b180_58 ?_
      rw [e0]
      refine ⟨hx, fun c => ?_, fun c => ?_⟩
      · rw [if_pos c] at h2; exact h2
      · rw [if_neg c, if_pos (by omega)] at h2; exact h2
    rw [e0]
    refine ⟨hx, fun c => end58 (Or.inl c), fun c => ⟨⟨by omega, by omega⟩, fun c2 => ?_, fun c2 => end58 (Or.inr c2)⟩⟩
    rw [if_neg c, if_neg (by omega)] at h2
    obtain ⟨e, hne⟩ := nx_pos hT hkN c2
    obtain ⟨he, -, -⟩ := nx_some hne
    rw [hne] at h2
    dsimp only at h2
    have heM : e < gM (G0 D) := by have := hF k0 hkN; have := he.2; omega
    have hq := hO.2.2.2.2.2 e heM
    have hA := dAll_lt hD
    have hB := hD.2.2.1
    have hS4 := hD.1
    have hN := hO.1.1
    have hon : onW T (I2 1332) k0 k0 := ⟨by rw [hL0]; decide, by omega, by rw [hL0]; omega⟩
    refine c181 (by omega) (fun d' _ => b181_0 (c72 (by omega) (fun d2 _ => k72 (s := k0) (T := T) (tm := false) rfl (by omega) hG2 hs hX2.2.2.1.2.1 hF hkN a3 hZ hon (b181_6 (b180_86 ?_)))))
    have est : stE D (G0 D) false T k0 = ((ecC (gE (G0 D) e) : Nat) : Int) := by unfold stE; rw [hne]
    have ec : zshr ((ecC (gE (G0 D) e) : Nat) : Int) 11 = ((c3 (e3 (G0 D) e) : Nat) : Int) := ec_shr (b := (gE (G0 D) e).1) (p := (gE (G0 D) e).2.1) (S := (gE (G0 D) e).2.2.1) (j := (gE (G0 D) e).2.2.2) (by omega) (by omega) (by omega) (by omega)
    rw [est, ec]
    refine c155 (by omega) (fun d' _ => k155 (c := e3 (G0 D) e) rfl (show (gE (G0 D) e).1 < 2 by omega) (show (gE (G0 D) e).2.1 < 4 by omega) (show (gE (G0 D) e).2.2.1 < 256 by omega) ⟨by omega, by omega⟩ (b180_92 ?_))
    show Q (.inl (some (vi (if x1 - 1 = 0 then ((gE (G0 D) e).1 : Int) else if x1 - 1 = 1 then ((gE (G0 D) e).2.1 : Int) else ((gE (G0 D) e).2.2.1 : Int))))) (z_cfg t1, I2, J1)
    by_cases q1 : x1 = 1
    · rw [if_pos q1] at h2
      rw [if_pos (by omega)]
      exact h2
    · rw [if_neg q1] at h2
      rw [if_neg (by omega)]
      by_cases q2 : x1 = 2
      · rw [if_pos q2] at h2
        rw [if_pos (by omega)]
        exact h2
      · rw [if_neg q2] at h2
        rw [if_neg (by omega)]
        exact h2
/-- what WhatIf has found out -/
def WI (I : Nat → Nat → Int) (D : tD) : Prop := (I 1481 0 = 0 ∨ (I 1481 0 = 1 ∧ I 1481 1 = lawA D 0 ∧ I 1481 2 = lawA D 1)) ∧ (I 1481 3 = -3 ∨ I 1481 3 = szA D 0) ∧ (I 1481 4 = -3 ∨ I 1481 4 = szA D 1)
theorem k166 {x1 : Int} {n : Nat} (hx : inR x1) (hd : 8 ≤ d) (hX : TX t I D) (hP : GP t I D n) (hn : n + 13 < 2147483648) (hW : WI I D)
    (hno : ¬ (0 ≤ x1 ∧ x1 ≤ 1) → Q (.inr 0) (z_cfg (t_th t), z_zr I (aTh t), z_zr J (aTh t)))
    (h : (0 ≤ x1 ∧ x1 ≤ 1) → ∀ (t' : zT) (I' J' : Nat → Nat → Int), tU t t' → FGx I I' J J' → TX t' I' D → GP t' I' D (n + 13) → WI I' D → (∀ a, a = 1672 ∨ a = 1716 → I' a = I a) → Q (.inl (some (vi (lawA D x1)))) (z_cfg t', I', J')) : Go sc d mt_166 0 [vr 42, vi x1] [] (z_cfg t, I, J) Q := by
  refine b166_0 (c148 (by omega) (fun d' _ => k148 hx ⟨by decide, by decide⟩ (fun hb => hno hb) (fun hr => b166_6 ?_)))
  have h := h hr
  have end35 : ∀ (t1 : zT) (I1 J1 : Nat → Nat → Int), I1 1481 1 = lawA D 0 → I1 1481 2 = lawA D 1 → Q (.inl (some (vi (lawA D x1)))) (z_cfg t1, I1, J1) → Go sc d mt_166 36 [vr 42, vi x1] [] (z_cfg t1, I1, J1) Q := by
    intro t1 I1 J1 a1 a2 hq
    refine b166_36 ?_
    rw [a1, a2]
    refine ⟨hx, fun c => ?_, fun c => ?_⟩
    · rw [c] at hq; exact hq
    · rw [show x1 = 1 by omega] at hq; exact hq
  rcases hW.1 with z | ⟨z, w1, w2⟩
  · rw [z]
    refine ⟨⟨by decide, by decide⟩, fun _ => ?_, fun q => absurd rfl q⟩
    refine c23 (by omega) (fun d' _ => k23 (by omega) hX hP (by omega) (fun t1 I1 J1 hu f1 hX1 hP1 h01 hG1 hgb1 => b166_20 ?_))
    refine c167 (by omega) (fun d' _ => k167 (by omega) hX1 hP1 (by omega) hG1 (fun t2 I2 J2 hu2 f2 hX2 hP2 a0 a1 a2 ak => ?_))
    have e81 : I1 1481 = I 1481 := f1.1 1481 (by decide) (by decide) (by decide) (by decide) (by decide) (by decide) (by decide) (by decide) (by decide) (by decide)
    refine end35 t2 I2 J2 a1 a2 (h t2 I2 J2 (hu.tr hu2) ((FGx.fu f1).tr (FGx.fl f2)) hX2 (hP2.mono (by omega)) ⟨Or.inr ⟨a0, a1, a2⟩, ?_, ?_⟩ (fun a ha => ?_))
    · rw [ak 3 (by decide) (by decide) (by decide), e81]; exact hW.2.1
    · rw [ak 4 (by decide) (by decide) (by decide), e81]; exact hW.2.2
    · rw [f2.1 a (by omega) (by omega) (by omega) (by omega) (by omega) (by omega) (by omega) (by omega) (by omega) (by omega) (by omega), f1.1 a (by omega) (by omega) (by omega) (by omega) (by omega) (by omega) (by omega) (by omega) (by omega) (by omega)]
  · rw [z]
    exact ⟨⟨by decide, by decide⟩, fun q => absurd q (by decide), fun _ => end35 t I J w1 w2 (h t I J (tU.rf t) (FGx.rf I J) hX (hP.mono (by omega)) hW (fun _ _ => rfl))⟩
theorem k169 {x1 : Int} {n : Nat} (hx : inR x1) (hd : 8 ≤ d) (hX : TX t I D) (hP : GP t I D n) (hn : n + 1001 < 2147483648) (hW : WI I D)
    (hno : ¬ ((0 ≤ x1 ∧ x1 ≤ 1) ∧ 0 < dB D) → Q (.inr 0) (z_cfg (t_th t), z_zr I (aTh t), z_zr J (aTh t)))
    (h : ((0 ≤ x1 ∧ x1 ≤ 1) ∧ 0 < dB D) → ∀ (t' : zT) (I' J' : Nat → Nat → Int), tU t t' → FGx I I' J J' → TX t' I' D → GP t' I' D (n + 1001) → WI I' D → (∀ a, a = 1672 ∨ a = 1716 → I' a = I a) → Q (.inl (some (vi (szA D x1)))) (z_cfg t', I', J')) : Go sc d mt_169 0 [vr 42, vi x1] [] (z_cfg t, I, J) Q := by
  refine b169_0 (c148 (by omega) (fun d' _ => k148 hx ⟨by decide, by decide⟩ (fun hb => hno (fun z => hb z.1)) (fun hr => b169_6 ?_)))
  have hD := hX.2.2.1.2.2.2
  have e5 : I (z_md (t_b t)) 5 = dB D := by rw [hX.2.1]; exact hX.2.2.1.1.2.2.1
  have hB := hD.2.2.1
  rw [e5, x_th]
  refine ⟨⟨by omega, by omega⟩, fun c => hno (fun z => by omega), fun c => ⟨hx, fun c2 => ?_, fun c2 => ?_⟩⟩
  · have h := h ⟨hr, by omega⟩
    refine c170 (by omega) (fun d' _ => k170 (by omega) hX hP (by omega) (by omega) hW.2.1 (fun t2 I2 J2 hu2 f2 hX2 hP2 a3 ak => b169_46 ?_))
    have hw0 : I2 1481 0 = 0 ∨ (I2 1481 0 = 1 ∧ I2 1481 1 = lawA D 0 ∧ I2 1481 2 = lawA D 1) := by rw [ak 0 (by decide), ak 1 (by decide), ak 2 (by decide)]; exact hW.1
    have := h t2 I2 J2 hu2 (FGx.fl f2) hX2 (hP2.mono (by omega)) ⟨hw0, Or.inr a3, by rw [ak 4 (by decide)]; exact hW.2.2⟩ (fun a ha => f2.1 a (by omega) (by omega) (by omega) (by omega) (by omega) (by omega) (by omega) (by omega) (by omega) (by omega) (by omega))
    rw [c2] at this
    exact this
  · have h := h ⟨hr, by omega⟩
    refine c171 (by omega) (fun d' _ => k171 (by omega) hX hP (by omega) (by omega) hW.2.2 (fun t2 I2 J2 hu2 f2 hX2 hP2 a3 ak => b169_64 ?_))
    have hw0 : I2 1481 0 = 0 ∨ (I2 1481 0 = 1 ∧ I2 1481 1 = lawA D 0 ∧ I2 1481 2 = lawA D 1) := by rw [ak 0 (by decide), ak 1 (by decide), ak 2 (by decide)]; exact hW.1
    have := h t2 I2 J2 hu2 (FGx.fl f2) hX2 hP2 ⟨hw0, by rw [ak 3 (by decide)]; exact hW.2.1, Or.inr a3⟩ (fun a ha => f2.1 a (by omega) (by omega) (by omega) (by omega) (by omega) (by omega) (by omega) (by omega) (by omega) (by omega) (by omega))
    rw [show x1 = 1 by omega] at this
    exact this
end
