/-! ===== the reference: goesBy ===== -/
section
variable {sc : mS} {d : Nat} {t : zT} {I J : Nat → Nat → Int} {Q : zR → zW → Prop} {D : tD} {ho lo : Nat}
theorem exS_cons {act k s b p a : Nat} {l : List Nat} {g : gS} : exS D act ho lo k s b p (a :: l) g = exS D act ho lo k s b p l (if okE D act ho lo s b p a = true then addE D g k b p a else g) := rfl
theorem k247sets {k b p s r act : Nat} {w : Int} {I0 : Nat → Nat → Int} (hd : 5 ≤ d) (hs : stOk D s) (hsr : SR s r) (hb : b < dB D) (hp : p < dS D) (hk : k < 2000) (hwo : wOk D w) (hw : I0 1835 52 = w) (hact : act = acts D w) (hfl : dFlow D (lberth s b) p = true) (hgo : dLamp D = -1 ∨ llamp s = lberth s b) (hT : RT I0 b (fS D ho lo b (dAll D))) (gF0 : gS)
    (h : ∀ I', BC I0 D ho lo act k s I' gF0 → Q (.inl none) (z_cfg t, I', J)) :
    ∀ (m i : Nat) (I1 : Nat → Nat → Int) (g : gS) (v8 v9 v10 v11 : zV), i + m = (fS D ho lo b (dAll D)).length → BC I0 D ho lo act k s I1 g → gF0 = exS D act ho lo k s b p ((fS D ho lo b (dAll D)).drop i) g →
      Go sc d mt_247 60 [vr 1835, vi (k : Int), vi (b : Int), vi (p : Int), vi (r : Int), vi (lberth s b : Int), vi (lash s (lberth s b) (dT D) : Int), vi (i : Int), v8, v9, v10, v11] [] (z_cfg t, I1, J) Q := by
  have hlen := fS_len D ho lo b (dAll D)
  intro m
  induction m with
  | zero =>
    intro i I1 g v8 v9 v10 v11 hi hB hgF
    have hD := hB.2.1.2.2
    have hA := dAll_lt hD
    have hB2 := hD.2.2.1
    rw [List.drop_eq_nil_of_le (by omega)] at hgF
    have hgF : gF0 = g := hgF
    rw [hgF] at h
    refine b247_60 ⟨⟨by omega, by omega⟩, ?_⟩
    rw [Int.toNat_natCast, hB.1.1 2996 (by decide) (by decide) (by decide) (by decide) (by decide) (by decide) (by decide) (by decide) (by decide) (by decide), hT.1]
    exact ⟨⟨by omega, by omega⟩, ⟨by omega, by omega⟩, fun c => by omega, fun _ => h I1 hB⟩
  | succ m ih =>
    intro i I1 g v8 v9 v10 v11 hi hB hgF
    have hB0 := hB
    obtain ⟨aF, aV, aC, aO, aK, aX⟩ := hB
    have hD := aV.2.2
    have hA := dAll_lt hD
    have hB2 := hD.2.2.1
    have hS4 := hD.1
    have hilt : i < (fS D ho lo b (dAll D)).length := by omega
    refine b247_60 ⟨⟨by omega, by omega⟩, ?_⟩
    rw [Int.toNat_natCast, aF.1 2996 (by decide) (by decide) (by decide) (by decide) (by decide) (by decide) (by decide) (by decide) (by decide) (by decide), hT.1]
    refine ⟨⟨by omega, by omega⟩, ⟨by omega, by omega⟩, fun _ => ?_, fun c => by omega⟩
    rcases aC with ⟨s1, s2, s3⟩ | ⟨s1, hG⟩
    · rw [s2]
      refine ⟨⟨by decide, by decide⟩, fun c => absurd c (by decide), fun _ => ?_⟩
      rw [exS_sp s1] at hgF
      rw [hgF] at h
      exact h I1 hB0
    rw [hG.1]
    refine ⟨⟨by decide, by decide⟩, fun _ => ⟨⟨by omega, by omega⟩, ?_⟩, fun c => absurd rfl c⟩
    -- the set
    obtain ⟨S, hS⟩ : ∃ S, (fS D ho lo b (dAll D))[i]? = some S := ⟨_, List.getElem?_eq_getElem hilt⟩
    have hmem : S ∈ fS D ho lo b (dAll D) := List.mem_of_getElem? hS
    obtain ⟨hm1, hm2⟩ := List.mem_filter.mp hmem
    have hm1 := List.mem_range'_1.mp hm1
    have hdrop : (fS D ho lo b (dAll D)).drop i = S :: (fS D ho lo b (dAll D)).drop (i + 1) := by
      rw [List.drop_eq_getElem_cons hilt]
      congr 1
      exact (List.getElem?_eq_some_iff.mp hS).2
    rw [hdrop, exS_cons] at hgF
    rw [show ((256 * (b : Int)) + (i : Int)).toNat = 256 * b + i by omega, aF.1 3028 (by decide) (by decide) (by decide) (by decide) (by decide) (by decide) (by decide) (by decide) (by decide) (by decide), hT.2 i S hS]
    have hPl := lash_le (D := D) (s := s) (p := lberth s b)
    have hnd := ndiff_le S (lash s (lberth s b) (dT D))
    rw [zandn_n (by omega) (by omega)]
    -- on to the next set, the graph as it was
    have skip : ∀ (I2 : Nat → Nat → Int) (u9 u10 u11 : zV), FR I1 I2 → RV I2 D ho lo → okE D act ho lo s b p S = false → Go sc d mt_247 278 [vr 1835, vi (k : Int), vi (b : Int), vi (p : Int), vi (r : Int), vi (lberth s b : Int), vi (lash s (lberth s b) (dT D) : Int), vi (i : Int), vi (S : Int), u9, u10, u11] [] (z_cfg t, I2, J) Q := by
      intro I2 u9 u10 u11 hF hV hq
      refine b247_278 ?_
      rw [hq, if_neg (by decide)] at hgF
      rw [show (i : Int) + 1 = ((i + 1 : Nat) : Int) by omega]
      exact ih (i + 1) I2 g _ _ _ _ (by omega) ⟨aF.tr (FG.fr hF), hV, Or.inr ⟨s1, hG.fr hF⟩, aO, aK, aX⟩ hgF
    have no : ∀ P : Prop, (okE D act ho lo s b p S = true → P) → ¬ P → okE D act ho lo s b p S = false := fun P h1 h2 => by
      cases hq : okE D act ho lo s b p S
      · rfl
      · exact absurd (h1 hq) h2
    refine ⟨fun c0 => ?_, fun c0 => skip I1 _ _ _ (FR.rf I1) aV (no _ (fun q => (okE_s q).2.2.2.1) (fun z => c0 (by rw [z]; rfl)))⟩
    have hw1 : I1 1835 52 = w := by rw [aF.2 52 (by decide) (by decide) (by decide)]; exact hw
    refine c248 (by omega) (fun d' _ => k248 (S := S) rfl (by omega) aV (by omega) hw1 hwo (fun I2 hF2 hV2 => ?_))
    have l1 := dBars_lt hD S (dS D) 1 (dAlong D)
    have kl1 : kp w (dBars D S (dS D) 1 (dAlong D)) = dBars D S (dS D) 1 (dAlong D) &&& act := by rw [hact]; exact kp_act (dBars_l _ _ _ _)
    have bl1 : kp w (dBars D S (dS D) 1 (dAlong D)) < 4096 := by rw [kl1]; exact Nat.lt_of_le_of_lt Nat.and_le_left l1
    have noW : ¬ dWaters D s b S &&& act = 0 → okE D act ho lo s b p S = false := fun z => no _ (fun q => (okE_s q).2.2.2.2.1) z
    refine b247_109 ⟨⟨by omega, by omega⟩, fun c1 => ?_, fun c1 => skip I2 _ _ _ hF2 hV2 (noW (fun z => c1 ?_))⟩
    case refine_2 =>
      have := (or_and0.mp z).1
      rw [kl1, this]
      rfl
    have e2b : zshl 1 (b : Int) = ((2 ^ b : Nat) : Int) := by
      have : b = 0 ∨ b = 1 := by omega
      rcases this with rfl | rfl <;> decide
    have hb4 : 2 ^ b < 4 := by
      have : b = 0 ∨ b = 1 := by omega
      rcases this with rfl | rfl <;> decide
    rw [e2b]
    refine c243 (by omega) (fun d' _ => k243 (s := s) (gone := S) (g := 2 ^ b) (lg := true) rfl rfl rfl rfl (by omega) hV2 hsr (by omega) hb4 (FR.w hw1 hF2) hwo (fun I3 hF3 hV3 => ?_))
    have hF13 := hF2.tr hF3
    have e3 : orN (dS D) (rShB D s S (2 ^ b) true) = orN (dS D) (dWaB D s b S) := orN_cg (fun q _ => rShB_wa hb)
    have l3 : orN (dS D) (dWaB D s b S) < 2 ^ dL D := orN_lt (fun q _ => dBars_l _ _ _ _)
    have hL12 : 2 ^ dL D ≤ 2 ^ 12 := Nat.pow_le_pow_right (by omega) hD.2.2.2.1
    rw [e3]
    have kl3 : kp w (orN (dS D) (dWaB D s b S)) = orN (dS D) (dWaB D s b S) &&& act := by rw [hact]; exact kp_act l3
    have bl3 : kp w (orN (dS D) (dWaB D s b S)) < 4096 := by
      rw [kl3]
      exact Nat.lt_of_le_of_lt Nat.and_le_left (by omega)
    refine b247_124 ⟨⟨by omega, by omega⟩, fun c2 => ?_, fun c2 => skip I3 _ _ _ hF13 hV3 (noW (fun z => c2 ?_))⟩
    case refine_2 =>
      have := (or_and0.mp z).2
      rw [kl3, this]
      rfl
    have hwat : dWaters D s b S &&& act = 0 := or_and0.mpr ⟨by rw [← kl1]; omega, by rw [← kl3]; omega⟩
    refine c249 (by omega) (fun d' _ => k249 (s := s) (b := b) (p := p) (S := S) rfl rfl rfl rfl hV3.1 hD hsr (by omega) (by omega) (by omega) (fun r' hr' => ?_))
    have hs' := stOk_af (S := S) hD hs hb hp (by omega)
    have hw3 : I3 1835 52 = w := FR.w hw1 hF13
    refine b247_140 (c243 (by omega) (fun d' _ => k243 (s := dAfter D s b p S) (gone := 0) (g := 0) (lg := false) rfl rfl rfl rfl (by omega) hV3 hr' (by omega) (by omega) hw3 hwo (fun I4 hF4 hV4 => ?_)))
    have hF14 := hF13.tr hF4
    have e4 : orN (dS D) (rShB D (dAfter D s b p S) 0 0 false) = dShores D (dAfter D s b p S) := orN_cg (fun q _ => rShB_all D _ q)
    have l4 : dShores D (dAfter D s b p S) < 2 ^ dL D := orN_lt (fun q _ => dBars_l _ _ _ _)
    rw [e4]
    have kl4 : kp w (dShores D (dAfter D s b p S)) = dShores D (dAfter D s b p S) &&& act := by rw [hact]; exact kp_act l4
    have bl4 : kp w (dShores D (dAfter D s b p S)) < 4096 := by
      rw [kl4]
      exact Nat.lt_of_le_of_lt Nat.and_le_left (by omega)
    refine b247_151 ⟨⟨by omega, by omega⟩, fun c3 => ?_, fun c3 => skip I4 _ _ _ hF14 hV4 (no _ (fun q => (okE_s q).2.2.2.2.2) (fun z => c3 (by rw [kl4, z]; rfl)))⟩
    have hok : okE D act ho lo s b p S = true := by
      unfold okE
      rw [Bool.and_eq_true, decide_eq_true_eq]
      exact ⟨hm2, ⟨hfl, hgo⟩, by omega, hwat, by rw [← kl4]; omega⟩
    have hok' : okE D act ho lo (gX g k) b p S = true := by rw [aX]; exact hok
    have ok4 := addE_ok hD aO aK hb hp (by omega) hok'
    rw [hok, if_pos rfl] at hgF
    have hG4 := hG.fr hF14
    have hG4' := hG4
    obtain ⟨g1, g2, ⟨X, T, g3, g4⟩, g5, g6⟩ := hG4
    have hN := aO.1.1
    have hM := aO.2.1
    have hsX : ∀ q, q < gN g → SR (gX g q) (X q) ∧ gX g q < 4194304 := fun q hq => ⟨g4 q hq, (aO.2.2.1 q hq).1.1⟩
    have hXi : ∀ x y, x < gN g → y < gN g → X x = X y → x = y := fun x y hx hy e => by
      refine aO.2.2.2.2.1 x y hx hy (SR_inj (r := X x) (hsX x hx).2 (hsX y hy).2 (hsX x hx).1 ?_)
      rw [e]
      exact (hsX y hy).1
    have hfe : fnd X (gN g) r' = fnd (gX g) (gN g) (dAfter D (gX g k) b p S) := by rw [aX]; exact fnd_SR hsX hr' hs'.1
    have had : addE D g k b p S = match fnd X (gN g) r' with
        | some j => if gM g = 40000 then g_sp g else g_e g (b, p, S, j)
        | none => if gN g = 2000 ∨ gM g = 40000 then g_sp g else g_e (g_x g (dAfter D s b p S) (gDp g k + 1)) (b, p, S, gN g) := by
      rw [hfe]
      unfold addE
      rw [if_neg (by rw [s1]; decide), aX]
      cases fnd (gX g) (gN g) (dAfter D s b p S) <;> rfl
    have aF4 := aF.tr (FG.fr hF14)
    -- too much
    have full : ∀ I5 : Nat → Nat → Int, FG I1 I5 → RV I5 D ho lo → 0 ≤ I5 1835 54 → I5 1835 54 ≤ 2000 → addE D g k b p S = g_sp g → Q (.inl none) (z_cfg t, z_u I5 1835 66 1, J) := by
      intro I5 f1 f2 f3 f4 f5
      have f6 : FH I5 (z_u I5 1835 66 1) := ⟨fun a z1 _ _ _ _ _ _ _ => zu_ne z1, fun q _ _ z3 => zu_nk z3⟩
      rw [f5, exS_sp rfl] at hgF
      rw [hgF] at h
      have o1 := ok4.1
      have o2 : k < gN (addE D g k b p S) := by have := ok4.2.1; omega
      have o3 := (ok4.2.2.1 k aK).1
      rw [f5] at o1 o2 o3
      refine h _ ⟨(aF.tr f1).tr (FG.fh f6), f2.fh f6, Or.inl ⟨rfl, zu_same _ _ _ _, ?_, ?_⟩, o1, o2, by rw [o3, aX]⟩
      · rw [zu_nk (by decide)]; exact f3
      · rw [zu_nk (by decide)]; exact f4
    have full2 : ∀ (I5 : Nat → Nat → Int) (x9 x10 x11 : Int), FG I1 I5 → RV I5 D ho lo → 0 ≤ I5 1835 54 → I5 1835 54 ≤ 2000 → addE D g k b p S = g_sp g → Go sc d mt_247 188 [vr 1835, vi (k : Int), vi (b : Int), vi (p : Int), vi (r : Int), vi (lberth s b : Int), vi (lash s (lberth s b) (dT D) : Int), vi (i : Int), vi (S : Int), vi x9, vi x10, vi x11] [vr 1835] (z_cfg t, I5, J) Q := by
      intro I5 x9 x10 x11 f1 f2 f3 f4 f5
      exact b247_188 (b247_193 ⟨Or.inr rfl, ⟨by decide, by decide⟩, fun c => absurd c (by decide), fun _ => full I5 f1 f2 f3 f4 f5⟩)
    -- the crossing is laid
    have put : ∀ (I5 : Nat → Nat → Int) (gq : gS) (j : Nat) (x9 x10 : Int), FG I1 I5 → RV I5 D ho lo → RG I5 gq → gM gq = gM g → gSp gq = false → gM g < 40000 → addE D g k b p S = g_e gq (b, p, S, j) → Go sc d mt_247 226 [vr 1835, vi (k : Int), vi (b : Int), vi (p : Int), vi (r : Int), vi (lberth s b : Int), vi (lash s (lberth s b) (dT D) : Int), vi (i : Int), vi (S : Int), vi x9, vi x10, vi (j : Int)] [] (z_cfg t, I5, J) Q := by
      intro I5 gq j x9 x10 f1 f2 f3 f4 f5 f6 f7
      refine b247_226 ?_
      rw [f3.2.1, Int.toNat_natCast]
      refine ⟨⟨by omega, by omega⟩, b247_278 ?_⟩
      obtain ⟨w1, w2⟩ := f3.e (b := b) (p := p) (S := S) (j := j) rfl
      rw [show (i : Int) + 1 = ((i + 1 : Nat) : Int) by omega]
      have o2 : k < gN (addE D g k b p S) := by have := ok4.2.1; omega
      refine ih (i + 1) _ (addE D g k b p S) _ _ _ _ (by omega) ⟨(aF.tr f1).tr (FG.fh w1), f2.fh w1, Or.inr ⟨?_, ?_⟩, ok4.1, o2, by rw [(ok4.2.2.1 k aK).1, aX]⟩ hgF
      · rw [f7]; exact f5
      · rw [f7]; exact w2
    have z66 : ∀ I5 : Nat → Nat → Int, FH I5 (z_u I5 1835 66 0) := fun I5 => ⟨fun a z1 _ _ _ _ _ _ _ => zu_ne z1, fun q _ _ z3 => zu_nk z3⟩
    have g54 := g3.2.1
    rw [g54]
    refine c242 (by omega) (fun d' _ => k242 (n := gN g) (X := X) (T := T) rfl g3 hXi hr'.1 (fun j hj => ?_) (fun hn h2 => ?_) (fun hn h2 I5 T' u1 u2 u3 => ?_))
    · -- a state known
      have hjn := (fnd_some hj).1
      rw [hj] at had
      dsimp only at had
      refine b247_169 ⟨⟨by omega, by omega⟩, fun c => by omega, fun _ => ?_⟩
      rw [g2]
      refine ⟨⟨by omega, by omega⟩, fun c => full2 I4 _ _ _ (FG.fr hF14) hV4 (by rw [g54]; omega) (by rw [g54]; omega) (by rw [had, if_pos (by omega)]), fun c => ?_⟩
      refine b247_193 ⟨Or.inl rfl, ⟨by decide, by decide⟩, fun _ => ⟨⟨by omega, by omega⟩, ⟨by omega, by omega⟩, fun c2 => by omega, fun _ => ?_⟩, fun c2 => absurd rfl c2⟩
      refine put _ g j _ _ ((FG.fr hF14).tr (FG.fh (z66 I4))) (hV4.fh (z66 I4)) ⟨zu_same _ _ _ _, ?_, ⟨X, T, g3.to (zu_nk (by decide)) (zu_ne (by decide)) (zu_ne (by decide)), g4⟩, fun q hq => ?_, fun e he => ?_⟩ rfl s1 (by omega) (by rw [had, if_neg (by omega)])
      · rw [zu_nk (by decide)]; exact g2
      · rw [zu_ne (by decide : ¬ 2740 = 1835)]; exact g5 q hq
      · rw [zu_ne (by decide : ¬ 2836 = 1835), zu_ne (by decide : ¬ 2868 = 1835), zu_ne (by decide : ¬ 2900 = 1835), zu_ne (by decide : ¬ 2932 = 1835)]; exact g6 e he
    · -- no room for a new state
      rw [hn] at had
      dsimp only at had
      refine b247_169 ⟨⟨by decide, by decide⟩, fun _ => full2 I4 _ _ _ (FG.fr hF14) hV4 (by rw [g54]; omega) (by rw [g54]; omega) (by rw [had, if_pos (Or.inl h2)]), fun c => absurd rfl c⟩
    · -- a new state
      rw [hn] at had
      dsimp only at had
      have u4 : FH I4 I5 := ⟨fun a z1 z2 z3 _ _ _ _ _ => u1 a z1 z2 z3, fun q z1 _ _ => u2 q z1⟩
      have v55 : I5 1835 55 = gM g := by rw [u2 55 (by decide)]; exact g2
      refine b247_169 ⟨⟨by omega, by omega⟩, fun c => by omega, fun _ => ?_⟩
      rw [v55]
      refine ⟨⟨by omega, by omega⟩, fun c => full2 I5 _ _ _ ((FG.fr hF14).tr (FG.fh u4)) (hV4.fh u4) (by rw [u3.2.1]; omega) (by rw [u3.2.1]; omega) (by rw [had, if_pos (Or.inr (by omega))]), fun c => ?_⟩
      refine b247_193 ⟨Or.inl rfl, ⟨by decide, by decide⟩, fun _ => ⟨⟨by omega, by omega⟩, ⟨by omega, by omega⟩, fun _ => ⟨⟨by omega, by omega⟩, ⟨by omega, by omega⟩, ?_⟩, fun c2 => absurd rfl c2⟩, fun c2 => absurd rfl c2⟩
      have hdk : I5 2740 k = gDp g k := by rw [u1 2740 (by decide) (by decide) (by decide)]; exact g5 k aK
      rw [Int.toNat_natCast, Int.toNat_natCast, hdk]
      have f8 : FH I5 (z_u (z_u I5 1835 66 0) 2740 (gN g) ((gDp g k : Int) + 1)) := ⟨fun a z1 _ _ z4 _ _ _ _ => by rw [zu_ne z4, zu_ne z1], fun q _ _ z3 => by rw [zu_ne (by decide : ¬ 1835 = 2740), zu_nk z3]⟩
      refine put _ (g_x g (dAfter D s b p S) (gDp g k + 1)) (gN g) _ _ (((FG.fr hF14).tr (FG.fh u4)).tr (FG.fh f8)) ((hV4.fh u4).fh f8) ⟨?_, ?_, ⟨upN X (gN g) r', T', u3.to ?_ ?_ ?_, fun q hq => ?_⟩, fun q hq => ?_, fun e he => ?_⟩ rfl s1 (by omega) (by rw [had, if_neg (by omega)])
      · rw [zu_ne (by decide : ¬ 1835 = 2740), zu_same]
      · rw [zu_ne (by decide : ¬ 1835 = 2740), zu_nk (by decide)]; exact v55
      · rw [zu_ne (by decide : ¬ 1835 = 2740), zu_nk (by decide)]
      · rw [zu_ne (by decide : ¬ 2676 = 2740), zu_ne (by decide : ¬ 2676 = 1835)]
      · rw [zu_ne (by decide : ¬ 2804 = 2740), zu_ne (by decide : ¬ 2804 = 1835)]
      · have hq : q < gN g + 1 := hq
        show SR (upN (gX g) (gN g) (dAfter D s b p S) q) (upN X (gN g) r' q)
        by_cases e : q = gN g
        · rw [e, upN_at, upN_at]; exact hr'
        · rw [upN_ne e, upN_ne e]; exact g4 q (by omega)
      · have hq : q < gN g + 1 := hq
        show z_u (z_u I5 1835 66 0) 2740 (gN g) ((gDp g k : Int) + 1) 2740 q = ((upN (gDp g) (gN g) (gDp g k + 1) q : Nat) : Int)
        rw [zu_at]
        by_cases e : q = gN g
        · rw [if_pos e, e, upN_at]; omega
        · rw [if_neg e, upN_ne e, zu_ne (by decide : ¬ 2740 = 1835), u1 2740 (by decide) (by decide) (by decide)]
          exact g5 q (by omega)
      · have he : e < gM g := he
        show _ ∧ _ ∧ _ ∧ _
        rw [zu_ne (by decide : ¬ 2836 = 2740), zu_ne (by decide : ¬ 2868 = 2740), zu_ne (by decide : ¬ 2900 = 2740), zu_ne (by decide : ¬ 2932 = 2740), zu_ne (by decide : ¬ 2836 = 1835), zu_ne (by decide : ¬ 2868 = 1835), zu_ne (by decide : ¬ 2900 = 1835), zu_ne (by decide : ¬ 2932 = 1835), u1 2836 (by decide) (by decide) (by decide), u1 2868 (by decide) (by decide) (by decide), u1 2900 (by decide) (by decide) (by decide), u1 2932 (by decide) (by decide) (by decide)]
        exact g6 e he
end
