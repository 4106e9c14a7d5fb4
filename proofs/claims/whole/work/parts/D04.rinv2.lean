/-! ===== between two calls: the reference, on ===== -/
section
variable {sc : mS} {d : Nat} {t : zT} {I J I' J' : Nat → Nat → Int} {Q : zR → zW → Prop} {s : sT} {n : Nat} {D : tD}
theorem RIv.kx {I1 : Nat → Nat → Int} {K : Option (List (Nat × Nat × Nat))} (h : RIv I1 s) (f : FN I1 I') (V : RV I' (sD s) (dHo (sD s) 0) (dLo (sD s) 0)) (z67 : I' 1835 67 = 1) (k : RK I' (sD s) (dHo (sD s) 0) (dLo (sD s) 0)) (hK : KXo I' (sD s) K) : RIv I' (sD s, sB s, sTp s, sFp s, (sMk s, sPs s, sPm s, sLw s), K) := by
  obtain ⟨⟨h1, h2⟩, ⟨h3, h4, h5, h6⟩, h7, h8, h9, h10, h11⟩ := h
  have e : ∀ k, ¬ k = 70 → ¬ k = 71 → I' 1835 k = I1 1835 k := f.2
  have fa : ∀ a, ¬ a = 1835 → ¬ (3060 ≤ a ∧ a ≤ 3188) → I' a = I1 a := fun a a1 a2 => f.1 a a1 (by omega) (by omega) (by omega) (by omega) (by omega)
  exact ⟨⟨V, (e 52 (by decide) (by decide)).trans h2⟩, ⟨Or.inr ⟨z67, k⟩, h4.to (fun k hk => e k (by omega) (by omega)), h5.to (fa 3252 (by decide) (by decide)), h6.to (e 82 (by decide) (by decide))⟩, hK, h8.to (fun k hk => e k (by omega) (by omega)) (fun a ha => fa a (by omega) (by omega)), h9.to (fa 2196 (by decide) (by decide)), (e 18 (by decide) (by decide)).trans h10, (e 20 (by decide) (by decide)).trans h11⟩
theorem FZ.rn {I1 : Nat → Nat → Int} (hf : FZ (z_u I 1835 0 0) I1) (hn : FN I1 I') : (∀ a, (a < 1835 ∨ 3360 < a) → I' a = I a) ∧ I' 1835 0 = 0 := ⟨fun a ha => by rw [hn.1 a (by omega) (by omega) (by omega) (by omega) (by omega) (by omega)]; exact ((FZ.r (J := I) hf).1 a ha).1, by rw [hn.2 0 (by decide) (by decide)]; exact (FZ.r (J := I) hf).2⟩
theorem G0_tg (hD : dOk D) (hs : gSp (G0 D) = false) : tgOk (G0 D) ∧ gN (G0 D) ≤ 2000 ∧ 0 < gN (G0 D) := by
  have hO := gAll_ok (act := acts D (-1)) (ho := dHo D 0) (lo := dLo D 0) hD
  exact ⟨gOk_tg hO (gAll_F hs hO), hO.1.1, hO.1.2⟩
theorem r_fewest (hd : 8 ≤ d) (hP : PVs s) (h : RIv I s) (hLO : ∀ l, kpN (sD s) false (sK s) = some l → LO (sD s) l) (h1 : RK1 t I J (sD s, sB s, sTp s, sFp s, (sMk s, sPs s, sPm s, sLw s), kpN (sD s) false (sK s)) Q (fwA (sD s) false)) : Go sc d mt_252 0 [vr 1835, vn, vn] [] (z_cfg t, I, J) Q := by
  refine k252 hd h.1.1 (PVs.hl hP).1 (PVs.hl hP).2 h.2.1.1 (G0 (sD s)) rfl (TT (sD s) false) (TT_f _) (fun I' I1 f fn V z67 K he hk => ?_)
  have h0 := h.f0 (v := 0)
  have fr := FZ.rn f fn
  have e70 : (gSp (G0 (sD s)) = true ∨ TT (sD s) false 0 = -1) → KXo I' (sD s) (sK s) := fun z => by
    rw [he z]
    refine h0.2.2.1.to (fun k hk => f.2.1 k (by omega) (by omega) (by omega) (by omega) (by omega)) (fun a ha => f.1 a (by omega) (by omega) (by omega) (by omega) (by omega) (by omega) (by omega) (by omega) (by omega) (by omega) (by omega) (by omega) (by omega) (by omega))
  have hKX : KXo I' (sD s) (kpN (sD s) false (sK s)) := by
    unfold kpN at hLO ⊢
    by_cases c : gSp (G0 (sD s)) = true ∨ TT (sD s) false 0 = -1
    · rw [if_pos c]; exact e70 c
    · rw [if_neg c] at hLO ⊢
      exact ⟨hk (b_no (fun z => c (Or.inl z))) (fun z => c (Or.inr z)), hLO _ rfl⟩
  have base : RIv I1 s := by
    have e : ∀ k, ¬ k = 70 → ¬ k = 71 → I' 1835 k = I1 1835 k := fn.2
    have V1 : RV I1 (sD s) (dHo (sD s) 0) (dLo (sD s) 0) := V.fn ⟨fun a a1 a2 a3 a4 a5 a6 => (fn.1 a a1 a2 a3 a4 a5 a6).symm, fun k k1 k2 => (fn.2 k k1 k2).symm⟩
    have K1 : RK I1 (sD s) (dHo (sD s) 0) (dLo (sD s) 0) := K.fn ⟨fun a a1 a2 a3 a4 a5 a6 => (fn.1 a a1 a2 a3 a4 a5 a6).symm, fun k k1 k2 => (fn.2 k k1 k2).symm⟩
    exact h0.fz f V1 ((e 67 (by decide) (by decide)).symm.trans z67) K1
  have hA : (if gSp (G0 (sD s)) = true then (-2 : Int) else if TT (sD s) false 0 = -1 then -1 else (((wyL (sD s) (G0 (sD s)) false (TT (sD s) false) 2000 0).length : Nat) : Int)) = fwA (sD s) false := by
    unfold fwA wL
    rw [List.length_map]
    rfl
  rw [hA]
  exact h1 I' J (base.kx fn V z67 K hKX) (rFr.of fr.1) fr.2
theorem r_quickest (hd : 8 ≤ d) (hP : PVs s) (h : RIv I s) (hLO : ∀ l, kpN (sD s) true (sK s) = some l → LO (sD s) l) (h1 : RK1 t I J (sD s, sB s, sTp s, sFp s, (sMk s, sPs s, sPm s, sLw s), kpN (sD s) true (sK s)) Q (fwA (sD s) true)) : Go sc d mt_256 0 [vr 1835, vn, vn, vn] [] (z_cfg t, I, J) Q := by
  have hD := hP.2.1
  have tt : TT (sD s) true = tQ (sD s) (G0 (sD s)) 4096 := rfl
  have hT1 : gSp (G0 (sD s)) = false → (TT (sD s) true 0 = -1 ↔ TT (sD s) false 0 = -1) := fun hs => by
    obtain ⟨hTg, hN, h0⟩ := G0_tg hD hs
    have a := hop_dst (D := sD s) hTg hN h0
    have b := dst_in (D := sD s) hTg hN h0
    have c := tQ_in (D := sD s) (g := G0 (sD s)) (B := 4096) (k := 0)
    rw [tt, TT_f]
    by_cases z : hop (sD s) (G0 (sD s)) 0
    · have z1 := a.1 z
      have z2 := c.2 z
      constructor
      · intro w; rw [w] at z2; cases z2
      · intro w; rw [w] at z1; cases z1
    · rw [tQ_n z]
      refine ⟨fun _ => ?_, fun _ => rfl⟩
      generalize dst (sD s) (G0 (sD s)) 0 = T at a b
      have : ¬ 0 ≤ T := fun w => z (a.2 w)
      omega
  refine k256 (ans := ((mins (sD s) (wL (sD s) true) : Nat) : Int)) hd h.1.1 (PVs.hl hP).1 (PVs.hl hP).2 h.2.1.1 (G0 (sD s)) rfl (TT (sD s) false) (TT_f _) (tQ (sD s) (G0 (sD s)) 4096) (tQ (sD s) (G0 (sD s)) 100000) (qC (sD s) (G0 (sD s))) (fun hs hTg => ?_) (fun hs hT => ?_) (fun I' I1 J' f fn fj V z67 K he hk => ?_)
  · obtain ⟨-, hN, h0⟩ := G0_tg hD hs
    have p0 : ∀ k B, 0 < B → (tQ (sD s) (G0 (sD s)) B k = 0 ↔ dGoal (sD s) (gX (G0 (sD s)) k) = true) := fun k B hB => tQ_0 hB
    have pp : ∀ k, (0 < tQ (sD s) (G0 (sD s)) 100000 k ↔ 0 < tQ (sD s) (G0 (sD s)) 4096 k) := fun k => by
      have a1 := p0 k 100000 (by decide)
      have a2 := p0 k 4096 (by decide)
      have b1 := tQ_in (D := sD s) (g := G0 (sD s)) (B := 100000) (k := k)
      have b2 := tQ_in (D := sD s) (g := G0 (sD s)) (B := 4096) (k := k)
      constructor
      · intro z
        have y := b2.2 (b1.1 (by omega))
        have y2 : ¬ tQ (sD s) (G0 (sD s)) 4096 k = 0 := fun w => by
          have := a1.2 (a2.1 w)
          omega
        omega
      · intro z
        have y := b1.2 (b2.1 (by omega))
        have y2 : ¬ tQ (sD s) (G0 (sD s)) 100000 k = 0 := fun w => by
          have := a2.2 (a1.1 w)
          omega
        omega
    refine ⟨PQ_of hTg hN, TP_quick hTg hN, fun k hk z => (q_goal ((p0 k 100000 (by decide)).1 z)).2.2, ?_, fun k _ => pp k, fun k _ => ?_, fun k e hk he => quick_iff hTg hN hk he, fun k e hk he z w => ?_⟩
    · by_cases z : hop (sD s) (G0 (sD s)) 0
      · exact Or.inr (tQ_in.2 z)
      · left
        have e1 : TT (sD s) true 0 = -1 := tQ_n z
        exact (hT1 hs).1 e1
    · rw [p0 k 100000 (by decide), p0 k 4096 (by decide)]
    · refine ((tQ_eq (B := 100000) hTg hN (by decide) hk he z).1 ?_).2
      rw [← w]
      unfold uE
      have ee : ((mE (sD s) (G0 (sD s)) e * 100000 + 1 : Nat) : Int) = 100000 * ((mE (sD s) (G0 (sD s)) e : Nat) : Int) + 1 := by omega
      rw [ee]
  · obtain ⟨hTg, hN, h0⟩ := G0_tg hD hs
    have hh : hop (sD s) (G0 (sD s)) 0 := by
      refine Classical.byContradiction (fun z => hT ((hT1 hs).1 (tQ_n z)))
    have hc := qC_lt hTg h0 hh
    rw [tQ_h hh]
    have em : mins (sD s) (wL (sD s) true) = qM (sD s) (G0 (sD s)) 0 := quick_mins hD hTg hN 2000 0 h0 hh (by omega)
    rw [em, Int.tdiv_eq_ediv_of_nonneg (by omega)]
    generalize qM (sD s) (G0 (sD s)) 0 = m
    generalize qC (sD s) (G0 (sD s)) 0 = c at hc
    omega
  · have h0 := h.f0 (v := 0)
    have fr := FZ.rn f fn
    have e70 : (gSp (G0 (sD s)) = true ∨ TT (sD s) false 0 = -1) → KXo I' (sD s) (sK s) := fun z => by
      rw [he z]
      refine h0.2.2.1.to (fun k hk => f.2.1 k (by omega) (by omega) (by omega) (by omega) (by omega)) (fun a ha => f.1 a (by omega) (by omega) (by omega) (by omega) (by omega) (by omega) (by omega) (by omega) (by omega) (by omega) (by omega) (by omega) (by omega) (by omega))
    have hKX : KXo I' (sD s) (kpN (sD s) true (sK s)) := by
      unfold kpN at hLO ⊢
      by_cases c : gSp (G0 (sD s)) = true ∨ TT (sD s) true 0 = -1
      · rw [if_pos c]
        refine e70 ?_
        by_cases c2 : gSp (G0 (sD s)) = true
        · exact Or.inl c2
        · exact Or.inr ((hT1 (b_no c2)).1 (c.resolve_left c2))
      · rw [if_neg c] at hLO ⊢
        have c2 : gSp (G0 (sD s)) = false := b_no (fun z => c (Or.inl z))
        exact ⟨hk c2 (fun z => c (Or.inr ((hT1 c2).2 z))), hLO _ rfl⟩
    have base : RIv I1 s := by
      have e : ∀ k, ¬ k = 70 → ¬ k = 71 → I' 1835 k = I1 1835 k := fn.2
      have V1 : RV I1 (sD s) (dHo (sD s) 0) (dLo (sD s) 0) := V.fn ⟨fun a a1 a2 a3 a4 a5 a6 => (fn.1 a a1 a2 a3 a4 a5 a6).symm, fun k k1 k2 => (fn.2 k k1 k2).symm⟩
      have K1 : RK I1 (sD s) (dHo (sD s) 0) (dLo (sD s) 0) := K.fn ⟨fun a a1 a2 a3 a4 a5 a6 => (fn.1 a a1 a2 a3 a4 a5 a6).symm, fun k k1 k2 => (fn.2 k k1 k2).symm⟩
      exact h0.fz f V1 ((e 67 (by decide) (by decide)).symm.trans z67) K1
    have hA : (if gSp (G0 (sD s)) = true then (-2 : Int) else if TT (sD s) false 0 = -1 then -1 else ((mins (sD s) (wL (sD s) true) : Nat) : Int)) = fwA (sD s) true := by
      unfold fwA
      by_cases c : gSp (G0 (sD s)) = true
      · rw [if_pos c, if_pos c]
      · rw [if_neg c, if_neg c]
        have c2 := hT1 (b_no c)
        by_cases c3 : TT (sD s) false 0 = -1
        · rw [if_pos c3, if_pos (c2.2 c3)]
        · rw [if_neg c3, if_neg (fun z => c3 (c2.1 z)), if_pos rfl]
    rw [hA]
    exact h1 I' J' (base.kx fn V z67 K hKX) (fun a ha => ⟨fr.1 a ha, by rw [fj a (by omega)]⟩) fr.2
theorem r_laws {x1 : Int} (hd : 9 ≤ d) (hP : PVs s) (h : RIv I s) (hx : inR x1) (h0 : ¬ (0 ≤ x1 ∧ x1 ≤ 1) → RK0 t I J s Q) (h1 : (0 ≤ x1 ∧ x1 ≤ 1) → RK1 t I J s Q (lawA (sD s) x1)) : Go sc d mt_262 0 [vr 1835, vi x1] [] (z_cfg t, I, J) Q :=
  k262 hx hd h.1.1 (PVs.hl hP).1 (PVs.hl hP).2 h.2.1.2.1 h.1.2 h.2.1.1 (fun z => (h0 (by omega)).go h) (fun z I1 f V L e52 z67 z0 => h1 (by omega) _ _ (h.fv f.1 V L (h.2.1.2.2.1.to f.2) e52 z67) (FV.r f.1) z0)
theorem r_size {x1 : Int} (hd : 9 ≤ d) (hP : PVs s) (h : RIv I s) (hx : inR x1) (h0 : ¬ ((0 ≤ x1 ∧ x1 ≤ 1) ∧ 0 < dB (sD s)) → RK0 t I J s Q) (h1 : ((0 ≤ x1 ∧ x1 ≤ 1) ∧ 0 < dB (sD s)) → RK1 t I J s Q (szA (sD s) x1)) : Go sc d mt_265 0 [vr 1835, vi x1, vn] [] (z_cfg t, I, J) Q :=
  k265 hx hd h.1.1 (PVs.hl hP).1 (PVs.hl hP).2 h.2.1.2.2.1 (szA_in hP.2.1) h.1.2 h.2.1.1 (fun z => (h0 (fun w => z ⟨by omega, w.2⟩)).go h) (fun z I1 f V S e e52 z67 z0 => h1 ⟨by omega, z.2⟩ _ _ (h.fv f V (h.2.1.2.1.to e) S e52 z67) (FV.r f) z0)
theorem r_rounds (hd : 9 ≤ d) (h : RIv I s) (h1 : ∀ A : Int, rAns (sD s) A → (-2 ≤ A ∧ A ≤ 1024) → RK1 t I J s Q A) : Go sc d mt_268 0 [vr 1835] [] (z_cfg t, I, J) Q := by
  refine k268 hd h.1.1 h.2.1.2.2.2 (fun I' a f V e52 z82 hA hI => ?_)
  have fa : ∀ a, ¬ a = 2612 → ¬ a = 2644 → ¬ a = 3284 → ¬ a = 2996 → ¬ a = 3028 → ¬ a = 1835 → I' a = I a := fun b b1 b2 b3 b4 b5 b6 => by
    have g := f.1 b b1 b2 b3 b4 b5 b6
    rw [zu_ne b6, zu_ne b6] at g
    exact g
  have e : ∀ k, ¬ k = 0 → ¬ k = 52 → ¬ k = 82 → I' 1835 k = I 1835 k := fun k k0 k1 k2 => by
    have g := f.2 k k1
    rw [zu_nk k2, zu_nk k0] at g
    exact g
  have e0 : I' 1835 0 = 0 := by
    have g := f.2 0 (by decide)
    rw [zu_nk (by decide), zu_same] at g
    exact g
  have g := h
  obtain ⟨⟨a1, a2⟩, ⟨a3, a4, a5, a6⟩, a7, a8, a9, a10, a11⟩ := h
  have f' : ∀ a, (2676 ≤ a ∧ a ≤ 2932) ∨ (3060 ≤ a ∧ a ≤ 3252) ∨ 3300 < a ∨ a = 2196 → I' a = I a := fun b hb => fa b (by omega) (by omega) (by omega) (by omega) (by omega) (by omega)
  refine h1 a hA hI I' J (g.gen V (e52.elim id (fun z => z.trans a2)) (a3.gen (fun k hk => e k (by omega) (by omega) (by omega)) (fun a ha => f' a (by omega))) (a4.to (fun k hk => e k (by omega) (by omega) (by omega))) (a5.to (f' 3252 (by decide))) z82 (a7.to (fun k hk => e k (by omega) (by omega) (by omega)) (fun a ha => f' a (by omega))) (fun k hk => e k (by omega) (by omega) (by omega)) (fun a ha => f' a (by omega))) (rFr.of (fun b hb => fa b (by omega) (by omega) (by omega) (by omega) (by omega) (by omega))) e0
theorem RIv.pl {mk : Nat} {ps pm : Nat → Nat} {lw : Int} (h : RIv I s) (f : FC I I') (V : RV I' (sD s) (dHo (sD s) 0) (dLo (sD s) 0)) (P : PR I' mk ps pm lw) : RIv I' (sD s, sB s, sTp s, sFp s, (mk, ps, pm, lw), sK s) := by
  obtain ⟨⟨a1, a2⟩, ⟨a3, a4, a5, a6⟩, a7, a8, a9, a10, a11⟩ := h
  have e : ∀ k, ¬ k = 0 → ¬ k = 53 → ¬ k = 84 → ¬ k = 85 → I' 1835 k = I 1835 k := f.2
  have fa : ∀ a, ¬ a = 2612 → ¬ a = 2644 → ¬ a = 1835 → ¬ (3316 ≤ a ∧ a ≤ 3348) → I' a = I a := fun a b1 b2 b3 b4 => f.1 a b1 b2 b3 (by omega) (by omega)
  exact ⟨⟨V, (e 52 (by decide) (by decide) (by decide) (by decide)).trans a2⟩, ⟨a3.gen (fun k hk => e k (by omega) (by omega) (by omega) (by omega)) (fun a ha => fa a (by omega) (by omega) (by omega) (by omega)), a4.to (fun k hk => e k (by omega) (by omega) (by omega) (by omega)), a5.to (fa 3252 (by decide) (by decide) (by decide) (by decide)), a6.to (e 82 (by decide) (by decide) (by decide) (by decide))⟩, a7.to (fun k hk => e k (by omega) (by omega) (by omega) (by omega)) (fun a ha => fa a (by omega) (by omega) (by omega) (by omega)), P, a9.to (fa 2196 (by decide) (by decide) (by decide) (by decide)), (e 18 (by decide) (by decide) (by decide) (by decide)).trans a10, (e 20 (by decide) (by decide) (by decide) (by decide)).trans a11⟩
theorem FC.r (f : FC I I') : rFr I J I' J := rFr.of (fun a ha => f.1 a (by omega) (by omega) (by omega) (by omega) (by omega))
theorem r_cross {x1 x2 x3 : Int} (hd : 7 ≤ d) (hP : PVs s) (h : RIv I s) (hx1 : inR x1) (hx2 : inR x2) (hx3 : inR x3) (h1 : RK1 t I J (sD s, sB s, sTp s, sFp s, (nMk (sD s) (sMk s) (sPs s (sMk s)) x1 x2 x3, nPs (sD s) (sMk s) (sPs s) x1 x2 x3, nPm (sD s) (sMk s) (sPs s (sMk s)) (sPm s) x1 x2 x3, crW (sD s) (sMk s) (sPs s (sMk s)) x1 x2 x3), sK s) Q (crA (sD s) (sMk s) (sPs s (sMk s)) x1 x2 x3)) : Go sc d mt_275 0 [vr 1835, vi x1, vi x2, vi x3, vn] [] (z_cfg t, I, J) Q :=
  k275 hx1 hx2 hx3 hd h.1.1 h.1.2 h.2.2.2.1 hP.1 (fun I' f V z0 P => h1 _ _ (h.pl f V P) (FC.r f) z0)
theorem r_back (hP : PVs s) (h : RIv I s) (h1 : RK1 t I J (sD s, sB s, sTp s, sFp s, (sMk s - 1, sPs s, sPm s, sLw s), sK s) Q (if sMk s = 0 then -1 else (sMk s : Int) - 1)) : Go sc d mt_279 0 [vr 1835] [] (z_cfg t, I, J) Q :=
  k279 h.2.2.2.1 hP.1.1 (fun I' f e g z0 P => h1 _ _ (h.pl f (h.1.1.fc (fun a a1 _ _ => g a a1) (fun k k0 _ k84 _ => e k k0 k84)) P) (FC.r f) z0)
theorem r_play {x1 : Int} (hd : 2 ≤ d) (hP : PVs s) (h : RIv I s) (hx : inR x1) (h0 : ¬ plOk (sD s) x1 → RK0 t I J s Q) (h1 : plOk (sD s) x1 → RK1 t I J s Q (plA (sD s) (sPs s (sMk s)) (sPm s (sMk s)) x1)) : Go sc d mt_280 0 [vr 1835, vi x1, vn, vn] [] (z_cfg t, I, J) Q :=
  k280 hx hd h.1.1 h.2.2.2.1 hP.1 (fun z => (h0 z).go h) (fun z => (h1 z).go h)
theorem r_law (h : RIv I s) (h1 : RK1 t I J s Q (sLw s)) : Go sc d mt_278 0 [vr 1835] [] (z_cfg t, I, J) Q := by
  refine b278_0 ?_
  rw [h.2.2.2.1.2.1]
  exact h1.go h
theorem r_fault (h : RIv I s) (h1 : RK1 t I J s Q (sFp s)) : Go sc d mt_219 0 [vr 1835] [] (z_cfg t, I, J) Q := by
  refine b219_0 ?_
  rw [h.2.2.2.2.2.2]
  exact h1.go h
theorem r_feed {x1 x2 x3 x4 x5 : Int} (hd : 2 ≤ d) (hP : PVs s) (h : RIv I s) (h0 : 680 < sTp s → RK1 t I J s Q (-1)) (h1 : ¬ 680 < sTp s → RK1 t I J (sD s, lay20 (sB s) (sTp s) x1 x2 x3 x4 x5, sTp s + 20, sFp s, (sMk s, sPs s, sPm s, sLw s), sK s) Q ((sTp s + 20 : Nat) : Int)) : Go sc d mt_186 0 [vr 1835, vi x1, vi x2, vi x3, vi x4, vi x5] [] (z_cfg t, I, J) Q := by
  have ht := hP.2.2.2.1
  have e1 := h.2.2.2.2.2.1
  refine b186_0 ?_
  rw [e1]
  refine ⟨⟨by omega, by omega⟩, fun z => (h0 (by omega)).go h, fun z => ?_⟩
  have z : ¬ 680 < sTp s := by omega
  have hz := h.f0 (v := 0)
  refine c187 (by omega) (fun d' _ => k187 hz.2.2.2.2.1 hz.2.2.2.2.2.1 (by omega) (fun I1 f1 g1 B1 => b186_25 ?_))
  refine c187 (by omega) (fun d' _ => k187 B1 g1 (by omega) (fun I2 f2 g2 B2 => b186_30 ?_))
  refine c187 (by omega) (fun d' _ => k187 B2 g2 (by omega) (fun I3 f3 g3 B3 => b186_35 ?_))
  refine c187 (by omega) (fun d' _ => k187 B3 g3 (by omega) (fun I4 f4 g4 B4 => b186_41 ?_))
  refine c187 (by omega) (fun d' _ => k187 B4 g4 (by omega) (fun I5 f5 g5 B5 => b186_47 ?_))
  have f15 := (((f1.tr f2).tr f3).tr f4).tr f5
  rw [g5]
  have e : ∀ k, ¬ k = 18 → I5 1835 k = z_u I 1835 0 0 1835 k := f15.2
  have fa : ∀ a, ¬ a = 1835 → ¬ a = 2196 → I5 a = z_u I 1835 0 0 a := f15.1
  obtain ⟨⟨a1, a2⟩, ⟨a3, a4, a5, a6⟩, a7, a8, a9, a10, a11⟩ := hz
  have V5 : RV I5 (sD s) (dHo (sD s) 0) (dLo (sD s) 0) := ⟨a1.1.fr (fun k hk => e k (by omega)) (fun a ha => fa a (by omega) (by omega)), fun S p q l z1 z2 z3 z4 z5 => by rw [fa 2612 (by decide) (by decide)]; exact a1.2.1 S p q l z1 z2 z3 z4 z5, a1.2.2⟩
  refine h1 z I5 J ⟨⟨V5, (e 52 (by decide)).trans a2⟩, ⟨a3.gen (fun k hk => e k (by omega)) (fun a ha => fa a (by omega) (by omega)), a4.to (fun k hk => e k (by omega)), a5.to (fa 3252 (by decide) (by decide)), a6.to (e 82 (by decide))⟩, a7.to (fun k hk => e k (by omega)) (fun a ha => fa a (by omega) (by omega)), a8.to (fun k hk => e k (by omega)) (fun a ha => fa a (by omega) (by omega)), B5, g5, (e 20 (by decide)).trans a11⟩ (rFr.of (fun a ha => by rw [fa a (by omega) (by omega), zu_ne (by omega)])) ((e 0 (by decide)).trans (zu_same _ _ _ _))
theorem r_text {x1 : Int} (hd : 16 ≤ d) (hP : PVs s) (hx : inR x1) (h : RIv I s) (h0 : (x1 < 0 ∨ (sTp s : Int) < x1) → RK0 t I J s Q) (hb : ∀ (m : Nat) (e : Nat × Nat), x1 = m → m ≤ sTp s → (tAll (sB s) m).1 = .inr e → RK1 t I J (sD s, sB s, 0, (e.2 : Int), (sMk s, sPs s, sPm s, sLw s), sK s) Q (e.1 : Int)) (hg : ∀ (m q : Nat), x1 = m → m ≤ sTp s → (tAll (sB s) m).1 = .inl q → dOk (tEnd (tAll (sB s) m)) → RK1 t I J (sNew s (tEnd (tAll (sB s) m))) Q 0) : Go sc d mt_188 0 [vr 1835, vi x1, vn] [] (z_cfg t, I, J) Q := by
  have ht := hP.2.2.2.1
  have e18 := h.2.2.2.2.2.1
  by_cases c : x1 < 0 ∨ (sTp s : Int) < x1
  · have fin : Go sc d mt_188 22 [vr 1835, vi x1, vn] [vr 1835] (z_cfg t, z_u I 1835 0 0, J) Q := b188_22 (b188_23 (c189 (by omega) (fun d' _ => k189n rfl (zu_same _ _ _ _) (b188_27 ⟨⟨by decide, by decide⟩, fun _ => (h0 c).go h, fun z => absurd rfl z⟩))))
    refine b188_0 ?_
    rw [e18]
    exact ⟨hx, fun _ => fin, fun z => ⟨⟨by omega, by omega⟩, fun _ => fin, fun z2 => by omega⟩⟩
  · obtain ⟨m, hm⟩ : ∃ m : Nat, x1 = m := ⟨x1.toNat, by omega⟩
    refine k188 hm hd e18 (by omega) ht h.2.2.2.2.1 (fun e he I' J' f z0 z18 z20 => ?_) (fun q hq I' J' f z0 z18 z20 R G o => ?_)
    · obtain ⟨fa, ek, fj⟩ := f
      obtain ⟨⟨a1, a2⟩, ⟨a3, a4, a5, a6⟩, a7, a8, a9, a10, a11⟩ := h
      have ee : ∀ k, 37 < k ∨ (0 < k ∧ k < 18) → I' 1835 k = I 1835 k := fun k hk => ek k (by omega) (by omega) (by omega)
      have f' : ∀ a, ¬ a = 1835 → ¬ (2228 ≤ a ∧ a ≤ 2582) → I' a = I a := fa
      have V5 : RV I' (sD s) (dHo (sD s) 0) (dLo (sD s) 0) := ⟨a1.1.fr (fun k hk => ee k (by omega)) (fun a ha => f' a (by omega) (by omega)), fun S p q l z1 z2 z3 z4 z5 => by rw [f' 2612 (by decide) (by decide)]; exact a1.2.1 S p q l z1 z2 z3 z4 z5, a1.2.2⟩
      exact hb m e hm (by omega) he I' J' ⟨⟨V5, (ee 52 (by decide)).trans a2⟩, ⟨a3.gen (fun k hk => ee k (by omega)) (fun a ha => f' a (by omega) (by omega)), a4.to (fun k hk => ee k (by omega)), a5.to (f' 3252 (by decide) (by decide)), a6.to (ee 82 (by decide))⟩, a7.to (fun k hk => ee k (by omega)) (fun a ha => f' a (by omega) (by omega)), a8.to (fun k hk => ee k (by omega)) (fun a ha => f' a (by omega) (by omega)), a9.to (f' 2196 (by decide) (by decide)), z18, z20⟩ (fun a ha => ⟨f' a (by omega) (by omega), by rw [fj a (by omega)]⟩) z0
    · obtain ⟨fa, fj⟩ := f
      obtain ⟨g1, ⟨g67, g78, g0, g1', g82, g52, g84, g85, g70⟩, ⟨r, gr, gs⟩, g33⟩ := G
      refine hg m q hm (by omega) hq o I' J' ⟨⟨⟨R, fun S p q l z1 z2 z3 z4 z5 => ?_, o⟩, g52⟩, ⟨Or.inl g67, Or.inl g78, ⟨Or.inl g0, Or.inl g1'⟩, Or.inl g82⟩, g70, ⟨g84, g85, fun i hi => ?_⟩, h.2.2.2.2.1.to (fa 2196 (by decide)), z18, z20⟩ (fun a ha => ⟨fa a (by omega), by rw [fj a (by omega)]⟩) z0
      · left
        have hS2 := dAll_lt o
        have z2 : S ≤ dAll (tEnd (tAll (sB s) m)) := z2
        have z3 : p ≤ dS (tEnd (tAll (sB s) m)) := z3
        have hs := o.1
        exact g1 _ (by omega)
      · have hi0 : i = 0 := Nat.le_zero.1 hi
        subst hi0
        exact ⟨⟨r, gr, gs⟩, g33⟩
end
