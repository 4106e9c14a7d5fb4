/-! ===== the reference: explores whole ===== -/
/-- what explores leaves alone -/
def FX (I I' : Nat → Nat → Int) : Prop := (∀ a, ¬ a = 2612 → ¬ a = 2644 → ¬ a = 1835 → ¬ a = 2676 → ¬ a = 2804 → ¬ a = 2740 → ¬ a = 2836 → ¬ a = 2868 → ¬ a = 2900 → ¬ a = 2932 → ¬ a = 2708 → ¬ a = 2996 → ¬ a = 3028 → I' a = I a) ∧ ∀ k, ¬ k = 54 → ¬ k = 55 → ¬ k = 66 → ¬ k = 67 → I' 1835 k = I 1835 k
theorem FX.tr {I I1 I2 : Nat → Nat → Int} (h : FX I I1) (h' : FX I1 I2) : FX I I2 := ⟨fun a h1 h2 h3 h4 h5 h6 h7 h8 h9 h10 h11 h12 h13 => (h'.1 a h1 h2 h3 h4 h5 h6 h7 h8 h9 h10 h11 h12 h13).trans (h.1 a h1 h2 h3 h4 h5 h6 h7 h8 h9 h10 h11 h12 h13), fun k h1 h2 h3 h4 => (h'.2 k h1 h2 h3 h4).trans (h.2 k h1 h2 h3 h4)⟩
theorem FX.fg {I I' : Nat → Nat → Int} (h : FG I I') : FX I I' := ⟨fun a h1 h2 h3 h4 h5 h6 h7 h8 h9 h10 _ _ _ => h.1 a h1 h2 h3 h4 h5 h6 h7 h8 h9 h10, fun k h1 h2 h3 _ => h.2 k h1 h2 h3⟩
theorem FX.row {I I' : Nat → Nat → Int} (h : ∀ a, ¬ a = 2708 → I' a = I a) : FX I I' := ⟨fun a _ _ _ _ _ _ _ _ _ _ h11 _ _ => h a h11, fun k _ _ _ _ => by rw [h 1835 (by decide)]⟩
theorem FX.rf (I : Nat → Nat → Int) : FX I I := ⟨fun _ _ _ _ _ _ _ _ _ _ _ _ _ _ => rfl, fun _ _ _ _ _ => rfl⟩
/-- the reference's graph is built -/
def RB (I : Nat → Nat → Int) (D : tD) (act : Nat) (g : gS) : Prop := RC I g ∧ gOk D act g ∧ (gSp g = false → ∀ i, i ≤ gN g → I 2708 i = gF g i)
section
variable {sc : mS} {d : Nat} {t : zT} {I J : Nat → Nat → Int} {Q : zR → zW → Prop} {D : tD} {ho lo : Nat}
theorem k240loop {act : Nat} {w : Int} {I0 : Nat → Nat → Int} {x1 x2 : Int} (hd : 6 ≤ d) (hwo : wOk D w) (hw : I0 1835 52 = w) (hact : act = acts D w) (h2 : x2 = if dShores D (dStart D) &&& act = 0 then 0 else 1) (gF0 : gS)
    (h : ∀ I', FX I0 I' → RV I' D ho lo → RB I' D act gF0 → Q (.inl (some (vi (if gSp gF0 = true then 0 else 1)))) (z_cfg t, I', J)) :
    ∀ (f k : Nat) (I1 : Nat → Nat → Int) (g : gS) (v4 v5 : zV), k + f = 2001 → FX I0 I1 → RV I1 D ho lo → RC I1 g → gOk D act g → (∀ b, b < dB D → RT I1 b (fS D ho lo b (dAll D))) → k ≤ gN g → (gSp g = false → ∀ i, i < k → I1 2708 i = gF g i) → gF g k = gM g → gF0 = gRun D act ho lo f k g →
      Go sc d mt_240 79 [vr 1835, vi x1, vi x2, vi (k : Int), v4, v5] [] (z_cfg t, I1, J) Q := by
  intro f
  induction f with
  | zero =>
    intro k I1 g v4 v5 hk _ _ _ oO _ hkn
    have := oO.1.1
    omega
  | succ f ih =>
    intro k I1 g v4 v5 hk oF oV oC oO oT hkn hrow hFM hgF
    have hD := oV.2.2
    have hB := hD.2.2.1
    have hN := oO.1.1
    have hN1 := oO.1.2
    have fin : gRun D act ho lo (f + 1) k g = g → (gSp g = true ∨ k = gN g) → Go sc d mt_240 166 [vr 1835, vi x1, vi x2, vi (k : Int), v4, v5] [] (z_cfg t, I1, J) Q := by
      intro e hend
      rw [e] at hgF
      rw [hgF] at h
      have r0 : ∀ a, ¬ a = 2708 → z_u I1 2708 (I1 1835 54).toNat (I1 1835 55) a = I1 a := fun a ha => zu_ne ha
      have hfx := FX.row r0
      have hv : RV (z_u I1 2708 (I1 1835 54).toNat (I1 1835 55)) D ho lo := oV.row (A := 2708) (by omega) r0
      have hc : RC (z_u I1 2708 (I1 1835 54).toNat (I1 1835 55)) g := oC.to (fun q _ => by rw [r0 1835 (by decide)]) (fun a ha => r0 a (by omega))
      refine b240_166 ?_
      rcases oC with ⟨s1, s2, s3, s4⟩ | ⟨s1, s2⟩
      · rw [s2]
        refine ⟨⟨by omega, by omega⟩, ⟨by decide, by decide⟩, fun c => absurd c (by decide), fun _ => ?_⟩
        have := h _ (oF.tr hfx) hv ⟨hc, oO, fun z => by rw [s1] at z; cases z⟩
        rw [if_pos s1] at this
        exact this
      · have hke : k = gN g := by
          rcases hend with q | q
          · rw [s1] at q; cases q
          · exact q
        obtain ⟨X, T, g3, g4⟩ := s2.2.2.1
        rw [s2.1]
        have e54 := g3.2.1
        refine ⟨⟨by omega, by omega⟩, ⟨by decide, by decide⟩, fun _ => ?_, fun c => absurd rfl c⟩
        have := h _ (oF.tr hfx) hv ⟨hc, oO, fun z i hi => ?_⟩
        · rw [if_neg (by rw [s1]; decide)] at this
          exact this
        · rw [e54, Int.toNat_natCast, s2.2.1, zu_at]
          by_cases q : i = gN g
          · rw [if_pos q, q, ← hke, hFM]
          · rw [if_neg q]
            exact hrow z i (by omega)
    have stop : ¬ (k < gN g ∧ gSp g = false) → gRun D act ho lo (f + 1) k g = g := fun c => by
      show (if k < gN g ∧ gSp g = false then _ else g) = g
      rw [if_neg c]
    refine b240_79 ?_
    have oC0 := oC
    rcases oC with ⟨s1, s2, s3, s4⟩ | ⟨s1, s2⟩
    · have st := stop (fun z => by rw [s1] at z; cases z.2)
      refine ⟨⟨by omega, by omega⟩, ⟨by omega, by omega⟩, fun _ => ?_, fun _ => fin st (Or.inl s1)⟩
      rw [s2]
      exact ⟨⟨by decide, by decide⟩, fun c => absurd c (by decide), fun _ => fin st (Or.inl s1)⟩
    · obtain ⟨X, T, g3, g4⟩ := s2.2.2.1
      rw [g3.2.1]
      refine ⟨⟨by omega, by omega⟩, ⟨by omega, by omega⟩, fun c => ?_, fun c => fin (stop (fun z => by omega)) (Or.inr (by omega))⟩
      rw [s2.1]
      refine ⟨⟨by decide, by decide⟩, fun _ => ⟨⟨by omega, by omega⟩, ?_⟩, fun c2 => absurd rfl c2⟩
      rw [Int.toNat_natCast, s2.2.1]
      have hkl : k < gN g := by omega
      have hst := (oO.2.2.1 k hkl).1
      generalize hI2 : z_u I1 2708 k ((gM g : Nat) : Int) = I2
      have r0 : ∀ a, ¬ a = 2708 → I2 a = I1 a := fun a ha => by rw [← hI2, zu_ne ha]
      have r2 : ∀ j, I2 2708 j = if j = k then ((gM g : Nat) : Int) else I1 2708 j := fun j => by rw [← hI2, zu_at]
      have oV2 : RV I2 D ho lo := oV.row (A := 2708) (by omega) r0
      have oC2 : RC I2 g := oC0.to (fun q _ => by rw [r0 1835 (by decide)]) (fun a ha => r0 a (by omega))
      have oT2 : ∀ b, b < dB D → RT I2 b (fS D ho lo b (dAll D)) := fun b hb => by
        unfold RT
        rw [r0 2996 (by decide), r0 3028 (by decide)]
        exact oT b hb
      have hBC : BC I2 D ho lo act k (gX g k) I2 g := ⟨FG.rf I2, oV2, oC2, oO, hkl, rfl⟩
      have hw2 : I2 1835 52 = w := by rw [r0 1835 (by decide), oF.2 52 (by decide) (by decide) (by decide) (by decide)]; exact hw
      have beh : ∀ (I' : Nat → Nat → Int) (x4 : Int) (u5 : zV) (g' : gS), g' = exK D act ho lo k g → gF g' = gF g → BC I2 D ho lo act k (gX g k) I' g' → Go sc d mt_240 160 [vr 1835, vi x1, vi x2, vi (k : Int), vi x4, u5] [] (z_cfg t, I', J) Q := by
        intro I' x4 u5 g' e1 e2 hA
        obtain ⟨a1, a2, a3, a4, a5, a6⟩ := hA
        refine b240_160 ?_
        rw [show (k : Int) + 1 = ((k + 1 : Nat) : Int) by omega]
        refine ih (k + 1) I' (g_f g' (k + 1)) _ _ (by omega) ((oF.tr (FX.row r0)).tr (FX.fg a1)) a2 a3 a4 (fun b hb => (oT2 b hb).fg a1) (by show k + 1 ≤ gN g'; omega) (fun z i hi => ?_) ?_ ?_
        · show I' 2708 i = ((upN (gF g') (k + 1) (gM g') i : Nat) : Int)
          rw [upN_ne (by omega), e2, a1.1 2708 (by decide) (by decide) (by decide) (by decide) (by decide) (by decide) (by decide) (by decide) (by decide) (by decide), r2]
          by_cases e3 : i = k
          · rw [if_pos e3, e3, hFM]
          · rw [if_neg e3]
            exact hrow s1 i (by omega)
        · show upN (gF g') (k + 1) (gM g') (k + 1) = gM g'
          rw [upN_at]
        · rw [hgF, e1]
          show (if k < gN g ∧ gSp g = false then _ else g) = _
          rw [if_pos ⟨hkl, s1⟩]
      by_cases hbar : dShores D (dStart D) &&& act = 0
      · rw [if_pos hbar] at h2
        have hek : exK D act ho lo k g = exB D act ho lo k (gX g k) (List.range' 0 (dB D)) g := by unfold exK; rw [if_pos hbar]
        rw [h2] at beh ⊢
        exact k240boats (w := w) (s := gX g k) hd hst hwo hw2 hact oT2 (exB D act ho lo k (gX g k) (List.range' 0 (dB D)) g) (fun I' x4 u5 hA => beh I' x4 u5 _ hek.symm (exB_F _ _) hA) (dB D) 0 I2 g v5 (by omega) hBC rfl
      · rw [if_neg hbar] at h2
        have hek : exK D act ho lo k g = g := by unfold exK; rw [if_neg hbar]
        rw [h2] at beh ⊢
        refine b240_107 ?_
        rw [oV2.1.2.2.1]
        exact ⟨⟨by decide, by decide⟩, ⟨by omega, by omega⟩, fun _ => ⟨⟨by decide, by decide⟩, fun c2 => absurd c2 (by decide), fun _ => beh I2 _ _ g hek.symm rfl hBC⟩, fun _ => beh I2 _ _ g hek.symm rfl hBC⟩
theorem k240 {x1 w : Int} {r : Nat} (e1 : x1 = r) (hd : 6 ≤ d) (hV : RV I D ho lo) (hr : SR (dStart D) r) (hwo : wOk D w) (hw : I 1835 52 = w) (hho : ho < 2147483648) (hlo : lo < 2147483648)
    (h : ∀ I', FX I I' → RV I' D ho lo → RB I' D (acts D w) (gAll D (acts D w) ho lo) → Q (.inl (some (vi (if gSp (gAll D (acts D w) ho lo) = true then 0 else 1)))) (z_cfg t, I', J)) :
    Go sc d mt_240 0 [vr 1835, vi x1, vn, vn, vn, vn] [] (z_cfg t, I, J) Q := by
  subst e1
  have hD := hV.2.2
  refine b240_0 ?_
  have hrow : ∀ (m i : Nat) (I1 : Nat → Nat → Int), i + m = 8192 → (∀ a, ¬ a = 1835 → ¬ a = 2804 → I1 a = I a) → (∀ k, ¬ k = 67 → I1 1835 k = I 1835 k) → (∀ j, j < i → I1 2804 j = 0) → Go sc d mt_240 7 [vr 1835, vi (r : Int), vi (i : Int), vn, vn, vn] [] (z_cfg t, I1, J) Q := by
    intro m
    induction m with
    | succ m ih =>
      intro i I1 hi h1 h2 h3
      refine b240_7 ⟨⟨by omega, by omega⟩, fun _ => ⟨⟨by omega, by omega⟩, ?_⟩, fun c => by omega⟩
      rw [Int.toNat_natCast, show (i : Int) + 1 = ((i + 1 : Nat) : Int) by omega]
      refine ih (i + 1) _ (by omega) (fun a z1 z2 => by rw [zu_ne z2, h1 a z1 z2]) (fun k hk => by rw [zu_ne (by decide : ¬ 1835 = 2804), h2 k hk]) (fun j hj => ?_)
      rw [zu_at]
      by_cases e : j = i
      · rw [if_pos e]
      · rw [if_neg e]; exact h3 j (by omega)
    | zero =>
      intro i I1 hi h1 h2 h3
      refine b240_7 ⟨⟨by omega, by omega⟩, fun c => by omega, fun _ => ?_⟩
      generalize hI2 : z_u (z_u (z_u I1 1835 54 0) 1835 55 0) 1835 66 0 = I2
      have f0 : ∀ a, ¬ a = 1835 → ¬ a = 2804 → I2 a = I a := fun a z1 z2 => by rw [← hI2, zu_ne z1, zu_ne z1, zu_ne z1, h1 a z1 z2]
      have f1 : ∀ k, ¬ k = 54 → ¬ k = 55 → ¬ k = 66 → ¬ k = 67 → I2 1835 k = I 1835 k := fun k z1 z2 z3 z4 => by rw [← hI2, zu_nk z3, zu_nk z2, zu_nk z1, h2 k z4]
      have f54 : I2 1835 54 = 0 := by rw [← hI2]; rfl
      have f55 : I2 1835 55 = 0 := by rw [← hI2]; rfl
      have f66 : I2 1835 66 = 0 := by rw [← hI2]; rfl
      have fT : ∀ j, j < 8192 → I2 2804 j = 0 := fun j hj => by rw [← hI2, zu_ne (by decide : ¬ 2804 = 1835), zu_ne (by decide : ¬ 2804 = 1835), zu_ne (by decide : ¬ 2804 = 1835)]; exact h3 j (by omega)
      have hV2 : RV I2 D ho lo := by
        refine ⟨hV.1.fr (fun k hk => f1 k (by omega) (by omega) (by omega) (by omega)) (fun a ha => f0 a (by omega) (by omega)), fun S p q l z1 z2 z3 z4 z5 => ?_, hD⟩
        rw [f0 2612 (by decide) (by decide)]
        exact hV.2.1 S p q l z1 z2 z3 z4 z5
      refine c241 (by omega) (fun d' _ => k241 (by omega) hV2.1 hD hho hlo (fun I3 m1 m2 => ?_))
      have hV3 : RV I3 D ho lo := by
        refine ⟨hV2.1.sets m1, fun S p q l z1 z2 z3 z4 z5 => ?_, hD⟩
        rw [m1 2612 (by decide) (by decide)]
        exact hV2.2.1 S p q l z1 z2 z3 z4 z5
      have hS3 : RS I3 0 (fun _ => r) (fun _ => 0) := by
        refine ⟨by omega, by rw [m1 1835 (by decide) (by decide)]; exact f54, fun k hk => by omega, fun i hi => ?_, pb_nil _ _⟩
        rw [m1 2804 (by decide) (by decide)]
        exact fT i hi
      refine b240_46 (c242 (by omega) (fun d' _ => k242 (n := 0) (X := fun _ => r) (T := fun _ => 0) rfl hS3 (fun a b ha _ _ => by omega) hr.1 (fun k hk => ?_) (fun _ hn => by omega) (fun _ _ I4 T' u1 u2 u3 => ?_)))
      · cases hk
      rw [upN_c] at u3
      refine b240_55 ⟨⟨by omega, by omega⟩, ?_⟩
      have f4 : FH I3 I4 := ⟨fun a z1 z2 z3 _ _ _ _ _ => u1 a z1 z2 z3, fun q z1 _ _ => u2 q z1⟩
      generalize hI5 : z_u I4 2740 (((0 : Nat) : Int)).toNat 0 = I5
      have f5 : FH I4 I5 := ⟨fun a _ _ _ z4 _ _ _ _ => by rw [← hI5, zu_ne z4], fun q _ _ _ => by rw [← hI5, zu_ne (by decide : ¬ 1835 = 2740)]⟩
      have hV5 : RV I5 D ho lo := (hV3.fh f4).fh f5
      have q0 : ∀ a, ¬ a = 2740 → I5 a = I4 a := fun a ha => by rw [← hI5, zu_ne ha]
      have hG5 : RG I5 (g0 D) := by
        refine ⟨?_, ?_, ⟨fun _ => r, T', u3.to (by rw [q0 1835 (by decide)]) (q0 2676 (by decide)) (q0 2804 (by decide)), fun _ _ => hr⟩, fun k hk => ?_, fun e he => absurd he (Nat.not_lt_zero e)⟩
        · rw [q0 1835 (by decide), u2 66 (by decide), m1 1835 (by decide) (by decide)]; exact f66
        · rw [q0 1835 (by decide), u2 55 (by decide), m1 1835 (by decide) (by decide)]; exact f55
        · have hk : k < 1 := hk
          rw [show k = 0 by omega, ← hI5]
          exact zu_same _ _ _ _
      have hT5 : ∀ b, b < dB D → RT I5 b (fS D ho lo b (dAll D)) := fun b hb => (m2 b hb).fg ((FG.fh f4).tr (FG.fh f5))
      have w5 : I5 1835 52 = w := by rw [q0 1835 (by decide), u2 52 (by decide), m1 1835 (by decide) (by decide), f1 52 (by decide) (by decide) (by decide) (by decide)]; exact hw
      have fx5 : FX I I5 := by
        refine ⟨fun a z1 z2 z3 z4 z5 z6 z7 z8 z9 z10 z11 z12 z13 => ?_, fun k z1 z2 z3 z4 => ?_⟩
        · rw [f5.1 a z3 z4 z5 z6 z7 z8 z9 z10, f4.1 a z3 z4 z5 z6 z7 z8 z9 z10, m1 a z12 z13, f0 a z3 z5]
        · rw [f5.2 k z1 z2 z3, f4.2 k z1 z2 z3, m1 1835 (by decide) (by decide), f1 k z1 z2 z3 z4]
      refine c184 (by omega) (fun d' _ => k184 hV5.1 hD (fun r2 hr2 => ?_))
      refine b240_62 (c243 (by omega) (fun d' _ => k243 (s := dStart D) (gone := 0) (g := 0) (lg := false) rfl rfl rfl rfl (by omega) hV5 hr2 (by omega) (by omega) w5 hwo (fun I6 hF6 hV6 => ?_)))
      have e4 : orN (dS D) (rShB D (dStart D) 0 0 false) = dShores D (dStart D) := orN_cg (fun q _ => rShB_all D _ q)
      have l4 : dShores D (dStart D) < 2 ^ dL D := orN_lt (fun q _ => dBars_l _ _ _ _)
      have hL12 : 2 ^ dL D ≤ 2 ^ 12 := Nat.pow_le_pow_right (by omega) hD.2.2.2.1
      have kl4 : kp w (dShores D (dStart D)) = dShores D (dStart D) &&& acts D w := kp_act l4
      have bl4 : kp w (dShores D (dStart D)) < 4096 := by
        rw [kl4]
        exact Nat.lt_of_le_of_lt Nat.and_le_left (by omega)
      rw [e4]
      have go : ∀ x2 : Int, x2 = (if dShores D (dStart D) &&& acts D w = 0 then 0 else 1) → Go sc d mt_240 76 [vr 1835, vi (r : Int), vi (i : Int), vn, vn, vn] [vi x2] (z_cfg t, I6, J) Q := by
        intro x2 hx2
        refine b240_76 ?_
        have fg6 : FG I5 I6 := FG.fr hF6
        exact k240loop (act := acts D w) (w := w) (I0 := I6) hd hwo (FR.w w5 hF6) rfl hx2 (gAll D (acts D w) ho lo) (fun I' z1 z2 z3 => h I' ((fx5.tr (FX.fg fg6)).tr z1) z2 z3) 2001 0 I6 (g0 D) vn vn (by omega) (FX.rf I6) hV6 (Or.inr ⟨rfl, hG5.fr hF6⟩) (g0_ok hD) (fun b hb => (hT5 b hb).fg fg6) (Nat.zero_le _) (fun _ j hj => by omega) rfl rfl
      refine b240_68 ⟨⟨by omega, by omega⟩, fun c => go 0 ?_, fun c => go 1 ?_⟩
      · rw [if_pos (by rw [← kl4]; omega)]
      · rw [if_neg (fun z => c (by rw [kl4, z]; rfl))]
  exact hrow 8192 0 _ (by omega) (fun a z1 z2 => zu_ne z1) (fun k hk => zu_nk hk) (fun j hj => by omega)
end
