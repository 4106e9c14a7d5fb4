/-! ===== between two calls: the class ===== -/
abbrev sT : Type := tD × (Nat → Nat) × Nat × Int × (Nat × (Nat → Nat) × (Nat → Nat) × Int) × Option (List (Nat × Nat × Nat))
def sD (s : sT) : tD := s.1
def sB (s : sT) : Nat → Nat := s.2.1
def sTp (s : sT) : Nat := s.2.2.1
def sFp (s : sT) : Int := s.2.2.2.1
def sMk (s : sT) : Nat := s.2.2.2.2.1.1
def sPs (s : sT) : Nat → Nat := s.2.2.2.2.1.2.1
def sPm (s : sT) : Nat → Nat := s.2.2.2.2.1.2.2.1
def sLw (s : sT) : Int := s.2.2.2.2.1.2.2.2
def sK (s : sT) : Option (List (Nat × Nat × Nat)) := s.2.2.2.2.2
/-- what is the same on both sides -/
def PVs (s : sT) : Prop := PO (sD s) (sMk s) (sPs s) (sPm s) ∧ dOk (sD s) ∧ (dHo (sD s) 0 ≤ 999 ∧ dLo (sD s) 0 ≤ 999) ∧ sTp s ≤ 700 ∧ (-1 ≤ sFp s ∧ sFp s ≤ 700)
def CRd (I : Nat → Nat → Int) (D : tD) : Prop := (I 1510 0 = -3 ∨ (rAns D (I 1510 0) ∧ -2 ≤ I 1510 0 ∧ I 1510 0 ≤ 1024)) ∧ 0 ≤ I 1510 5 ∧ I 1510 5 ≤ 1024
def CIv (t : zT) (I : Nat → Nat → Int) (s : sT) (n : Nat) : Prop := (TX t I (sD s) ∧ t_pb t = t_rb t ∧ ∀ b, SN b I) ∧ (CB I (sB s) ∧ I 42 1 = (sTp s : Int) ∧ I 42 2 = sFp s) ∧ (GP t I (sD s) n ∧ WI I (sD s)) ∧ CRd I (sD s) ∧ KCo I (sD s) (sK s) ∧ PC I (sMk s) (sPs s) (sPm s) (sLw s)
/-- what the class's calls leave alone: the reference, the row of answers -/
def cFr (I J I' J' : Nat → Nat → Int) : Prop := ∀ a, 1835 ≤ a → a < 3392 → I' a = I a ∧ J' a = J a
def tRo (t t' : zT) : Prop := rS t' ≤ rS t + 6 ∧ rC t' ≤ rC t + 1
section
variable {sc : mS} {d : Nat} {t : zT} {I J I' J' : Nat → Nat → Int} {Q : zR → zW → Prop} {s : sT} {n : Nat} {D : tD}
theorem tRo.u {t' : zT} (h : tU t t') : tRo t t' := ⟨by rw [h.2.1]; omega, by rw [h.2.2]; omega⟩
theorem tRo.rf (t : zT) : tRo t t := ⟨by omega, by omega⟩
theorem tRo.th (h : eOk t) : tRo t (t_th t) := ⟨by rw [(eOk_th h).2.2.1]; omega, by rw [(eOk_th h).2.2.2]; omega⟩
theorem tRo.to {t' : zT} (h1 : t_s t' = t_s t) (h2 : t_e t' = t_e t) (h3 : t_l t' = t_l t) : tRo t t' := ⟨by rw [(eOk_to h1 h2 h3).2.1]; omega, by rw [(eOk_to h1 h2 h3).2.2.1]; omega⟩
theorem cFr.rf (I J : Nat → Nat → Int) : cFr I J I J := fun _ _ _ => ⟨rfl, rfl⟩
theorem GP.gen {t' : zT} (h : GP t I D n) (h1 : t_s t' = t_s t) (h2 : t_e t' = t_e t) (h3 : t_l t' = t_l t) (hg : t_gb t' = t_gb t) (hr : I 1057 0 = 1 → t_rb t' = t_rb t) (hc : I 1057 0 = 1 → CD (t_gb t) I D → CD (t_gb t) I' D) (hf : ∀ a, (1057 ≤ a ∧ a ≤ 1460) ∨ 3392 ≤ a → I' a = I a) : GP t' I' D n := by
  obtain ⟨p1, p2, p3, p4, p5⟩ := h
  have e1 : I' 1057 = I 1057 := hf 1057 (by decide)
  have e2 : I' 1283 = I 1283 := hf 1283 (by decide)
  have eo := eOk_to h1 h2 h3
  unfold GP
  rw [e1, e2]
  refine ⟨p1, p2, p3, p4, ?_⟩
  rcases p5 with z | ⟨z, hbd, hgb, hG, hmz⟩
  · exact Or.inl z
  · obtain ⟨g1, g2, g3, g4, g5, g6⟩ := hG
    have ht := g1.2.2.2
    have g4' := g4.up (I' := I') (fun a ha => hf a (by omega)) (fun k _ => by rw [e1])
    have g4'' : GC t' I' D (G0 D) := by
      rcases g4' with q | ⟨q1, q2, q3, q4, q5, q6⟩
      · exact Or.inl q
      · exact Or.inr ⟨q1, q2, q3, q4, by rw [h2]; exact q5, by rw [eo.2.2.2]; exact q6⟩
    refine Or.inr ⟨z, hbd, by rw [hg, hr z]; exact hgb, ⟨eo.1 g1, by rw [hg]; exact hc z g2, g3, g4'', g5, fun q i hi => by rw [hf 1172 (by decide)]; exact g6 q i hi⟩, fun a b s tm c1 c2 => (hmz a b s tm c1 c2).to (by rw [e2]) (hf 1332 (by decide)) (hf 1460 (by decide))⟩
theorem WI.to (h : WI I D) (e : I' 1481 = I 1481) : WI I' D := by unfold WI; rw [e]; exact h
theorem CRd.to (h : CRd I D) (e : I' 1510 = I 1510) : CRd I' D := by unfold CRd; rw [e]; exact h
theorem PC.to {mk : Nat} {ps pm : Nat → Nat} {lw : Int} (h : PC I mk ps pm lw) (e1 : I' 1732 = I 1732) (e2 : I' 1780 = I 1780) (e3 : I' 1812 = I 1812) : PC I' mk ps pm lw := by unfold PC; rw [e1, e2, e3]; exact h
theorem CB.to {B : Nat → Nat} (h : CB I B) (e : I' 85 = I 85) : CB I' B := by unfold CB; rw [e]; exact h
theorem SN.low {b : Bool} (h : SN b I) (f : ∀ a, a < 800 → I' a = I a) : SN b I' := h.fr (f _ (zmf_lt b 6)) (f _ (zmf_lt b 7)) (by rw [f _ (zmf_lt b 14)]) (by rw [f _ (zmd_lt b)]; exact h.2.2)
/-- a call that leaves the text, the tape, the play and what is kept -/
theorem CIv.gx {t' : zT} {m : Nat} (h : CIv t I s n) (hu : tU t t') (hf : FGx I I' J J') (hX : TX t' I' (sD s)) (hP : GP t' I' (sD s) m) (hW : WI I' (sD s)) {K : Option (List (Nat × Nat × Nat))} (hK : KCo I' (sD s) K) : CIv t' I' (sD s, sB s, sTp s, sFp s, (sMk s, sPs s, sPm s, sLw s), K) m := by
  obtain ⟨⟨-, h2, h3⟩, ⟨h4, h5, h6⟩, -, h9, -, h11⟩ := h
  have lo : ∀ a, a < 800 → I' a = I a := fun a ha => hf.1 a (by omega) (by omega) (by omega) (by omega) (by omega) (by omega)
  have g : ∀ a, (1482 ≤ a ∧ a < 1660) ∨ (1720 ≤ a ∧ a < 1835) → I' a = I a := fun a ha => hf.1 a (by omega) (by omega) (by omega) (by omega) (by omega) (by omega)
  refine ⟨⟨hX, by rw [hu.1.2.2.2.1, hu.1.2.1]; exact h2, fun b => (h3 b).low lo⟩, ⟨h4.to (lo 85 (by decide)), by rw [lo 42 (by decide)]; exact h5, by rw [lo 42 (by decide)]; exact h6⟩, ⟨hP, hW⟩, h9.to (g 1510 (by decide)), hK, h11.to (g 1732 (by decide)) (g 1780 (by decide)) (g 1812 (by decide))⟩
theorem FGx.c (hf : FGx I I' J J') : cFr I J I' J' := fun a h1 h2 => ⟨hf.1 a h2 (by omega) (by omega) (by omega) (by omega) (by omega), hf.2 a h2⟩
/-- a call that asks the laws alone -/
theorem CIv.fb (h : CIv t I s n) (hf : FB I I') (hU : RU t I' (sD s)) : CIv t I' s n := by
  obtain ⟨⟨h1, h2, h3⟩, ⟨h4, h5, h6⟩, ⟨h7, h8⟩, h9, h10, h11⟩ := h
  have e : ∀ a, ¬ a = 884 → ¬ a = 1044 → I' a = I a := hf
  have lo : ∀ a, a < 800 → I' a = I a := fun a ha => e a (by omega) (by omega)
  refine ⟨⟨⟨h1.1, h1.2.1, hU, fun b i hi => ?_⟩, h2, fun b => (h3 b).low lo⟩, ⟨h4.to (lo 85 (by decide)), by rw [lo 42 (by decide)]; exact h5, by rw [lo 42 (by decide)]; exact h6⟩, ⟨h7.gen rfl rfl rfl rfl (fun _ => rfl) (fun _ c => c.fr (lo _ (zmd_lt _)) (fun k => lo _ (zmf_lt _ k))) (fun a ha => e a (by omega) (by omega)), h8.to (e 1481 (by decide) (by decide))⟩, h9.to (e 1510 (by decide) (by decide)), h10.to (e 1672 (by decide) (by decide)) (e 1716 (by decide) (by decide)), h11.to (e 1732 (by decide) (by decide)) (e 1780 (by decide) (by decide)) (e 1812 (by decide) (by decide))⟩
  rw [lo _ (zmf_lt b 6), lo _ (zmf_lt b 7)]
  exact h1.2.2.2 b i hi
theorem FB.c (hf : FB I I') : cFr I J I' J := fun a h1 h2 => ⟨hf a (by omega) (by omega), rfl⟩
/-- a throw -/
theorem CIv.th (h : CIv t I s n) : CIv (t_th t) (z_zr I (aTh t)) s n := by
  obtain ⟨⟨h1, h2, h3⟩, ⟨h4, h5, h6⟩, ⟨h7, h8⟩, h9, h10, h11⟩ := h
  have e : ∀ a, a < 3392 → z_zr I (aTh t) a = I a := fun a ha => zr_lo ha
  exact ⟨⟨h1.th, h2, fun b => (h3 b).low (fun a ha => e a (by omega))⟩, ⟨h4.to (e 85 (by decide)), by rw [e 42 (by decide)]; exact h5, by rw [e 42 (by decide)]; exact h6⟩, ⟨h7.th, h8.to (e 1481 (by decide))⟩, h9.to (e 1510 (by decide)), h10.to (e 1672 (by decide)) (e 1716 (by decide)), h11.to (e 1732 (by decide)) (e 1780 (by decide)) (e 1812 (by decide))⟩
theorem cFr.th : cFr I J (z_zr I (aTh t)) (z_zr J (aTh t)) := fun a _ h2 => ⟨zr_lo h2, zr_lo h2⟩
theorem CIv.mono {m : Nat} (h : CIv t I s n) (hm : n ≤ m) : CIv t I s m := ⟨h.1, h.2.1, ⟨h.2.2.1.1.mono hm, h.2.2.1.2⟩, h.2.2.2⟩
/-- what is asked behind a call of the class: an answer, or a throw -/
def CK1 (sc : mS) (d : Nat) (t : zT) (I J : Nat → Nat → Int) (s' : sT) (n' : Nat) (Q : zR → zW → Prop) (A : Int) : Prop := ∀ (t' : zT) (I' J' : Nat → Nat → Int), CIv t' I' s' n' → cFr I J I' J' → tRo t t' → Q (.inl (some (vi A))) (z_cfg t', I', J')
def CK0 (t : zT) (I J : Nat → Nat → Int) (s : sT) (n : Nat) (Q : zR → zW → Prop) (e : Nat) : Prop := ∀ (t' : zT) (I' J' : Nat → Nat → Int), CIv t' I' s n → cFr I J I' J' → tRo t t' → Q (.inr e) (z_cfg t', I', J')
theorem CK0.go {e : Nat} (h : CIv t I s n) (k : CK0 t I J s n Q e) : Q (.inr e) (z_cfg (t_th t), z_zr I (aTh t), z_zr J (aTh t)) := k _ _ _ h.th cFr.th (tRo.th h.1.1.1)
theorem CK1.go {A : Int} (h : CIv t I s n) (k : CK1 sc d t I J s n Q A) : Q (.inl (some (vi A))) (z_cfg t, I, J) := k _ _ _ h (cFr.rf I J) (tRo.rf t)
theorem CIv.cd (h : CIv t I s n) : CD (t_b t) I (sD s) ∧ dOk (sD s) := ⟨by rw [h.1.1.2.1]; exact h.1.1.2.2.1.1, h.1.1.2.2.1.2.2.2⟩
theorem c_count {x1 : Int} (h : CIv t I s n) (hx : inR x1) (h0 : ¬ (0 ≤ x1 ∧ x1 ≤ 6) → CK0 t I J s n Q 0) (h1 : (0 ≤ x1 ∧ x1 ≤ 6) → CK1 sc d t I J s n Q (cntA (sD s) (sMk s) (sTp s) x1)) : Go sc d mt_133 0 [vr 42, vi x1] [] (z_cfg t, I, J) Q :=
  k133 hx h.cd.1 h.cd.2 h.2.2.2.2.2.1 h.2.1.2.1 (fun z => (h0 z).go h) (fun z => (h1 z).go h)
theorem c_thing {x1 x2 : Int} (hd : 3 ≤ d) (h : CIv t I s n) (hx : inR x1) (hx2 : inR x2) (h0 : ¬ ((0 ≤ x1 ∧ x1 < dT (sD s)) ∧ (0 ≤ x2 ∧ x2 ≤ 2)) → CK0 t I J s n Q 0) (h1 : ((0 ≤ x1 ∧ x1 < dT (sD s)) ∧ (0 ≤ x2 ∧ x2 ≤ 2)) → CK1 sc d t I J s n Q (thA (sD s) x1 x2)) : Go sc d mt_135 0 [vr 42, vi x1, vi x2] [] (z_cfg t, I, J) Q :=
  k135 hx hx2 (by omega) h.cd.1 h.cd.2 (fun z => (h0 z).go h) (fun z => (h1 z).go h)
theorem c_boat {x1 x2 : Int} (h : CIv t I s n) (hx : inR x1) (hx2 : inR x2) (h0 : ¬ ((0 ≤ x1 ∧ x1 < dB (sD s)) ∧ (0 ≤ x2 ∧ x2 ≤ 2)) → CK0 t I J s n Q 0) (h1 : ((0 ≤ x1 ∧ x1 < dB (sD s)) ∧ (0 ≤ x2 ∧ x2 ≤ 2)) → CK1 sc d t I J s n Q (btA (sD s) x1 x2)) : Go sc d mt_138 0 [vr 42, vi x1, vi x2] [] (z_cfg t, I, J) Q :=
  k138 hx hx2 h.cd.1 h.cd.2 (fun z => (h0 z).go h) (fun z => (h1 z).go h)
theorem c_water {x1 x2 : Int} (hd : 3 ≤ d) (h : CIv t I s n) (hx : inR x1) (hx2 : inR x2) (h0 : ¬ ((0 ≤ x1 ∧ x1 < dS (sD s)) ∧ (0 ≤ x2 ∧ x2 < dS (sD s))) → CK0 t I J s n Q 0) (h1 : ((0 ≤ x1 ∧ x1 < dS (sD s)) ∧ (0 ≤ x2 ∧ x2 < dS (sD s))) → CK1 sc d t I J s n Q (((dFlow (sD s) x1.toNat x2.toNat).toNat : Nat) : Int)) : Go sc d mt_140 0 [vr 42, vi x1, vi x2] [] (z_cfg t, I, J) Q :=
  k140 hx hx2 (by omega) h.cd.1 h.cd.2 (fun z => (h0 z).go h) (fun z => (h1 z).go h)
theorem c_bars {x1 x2 x3 : Int} {lb : Bool} (hd : 3 ≤ d) (h : CIv t I s n) (hx2 : inR x2) (hx3 : inR x3) (h0 : ¬ grpOk (sD s) x2 x3 → CK0 t I J s n Q 0) (h1 : grpOk (sD s) x2 x3 → CK1 sc d t I J s n Q ((dBars (sD s) (zand x1 (dAll (sD s) : Int)).toNat x2.toNat x3.toNat lb.toNat : Nat) : Int)) : Go sc d mt_142 0 [vr 42, vi x1, vi x2, vi x3, vi ((lb.toNat : Nat) : Int)] [] (z_cfg t, I, J) Q :=
  k142 hx2 hx3 hd h.1.1.2.2.1 h.1.1.2.1 (fun z => (h0 z).go h) (fun z I' f U => h1 z _ _ _ (h.fb f U) (FB.c f) (tRo.rf t))
theorem c_safe {x1 x2 : Int} {lb : Bool} (hd : 3 ≤ d) (h : CIv t I s n) (hx1 : inR x1) (hx2 : inR x2) (h0 : ¬ grpOk (sD s) x1 x2 → CK0 t I J s n Q 0) (h1 : grpOk (sD s) x1 x2 → CK1 sc d t I J s n Q ((cSaf (sD s) x1.toNat x2.toNat lb.toNat (dAll (sD s)) : Nat) : Int)) : Go sc d mt_145 0 [vr 42, vi x1, vi x2, vi ((lb.toNat : Nat) : Int), vn, vn, vn] [] (z_cfg t, I, J) Q :=
  k145 hx1 hx2 hd h.1.1.2.2.1 h.1.1.2.1 (fun z => (h0 z).go h) (fun z I' f U => h1 z _ _ _ (h.fb f U) (FB.c f) (tRo.rf t))
theorem c_alike {x1 : Int} (hd : 5 ≤ d) (h : CIv t I s n) (hx : inR x1) (h0 : ¬ (0 ≤ x1 ∧ x1 < dT (sD s)) → CK0 t I J s n Q 0) (h1 : (0 ≤ x1 ∧ x1 < dT (sD s)) → CK1 sc d t I J s n Q ((alS (sD s) x1.toNat (dT (sD s)) : Nat) : Int)) : Go sc d mt_173 0 [vr 42, vi x1, vn, vn] [] (z_cfg t, I, J) Q :=
  k173 hx hd h.1.1.2.2.1 h.1.1.2.1 (fun z => (h0 z).go h) (fun z I' f U => h1 z _ _ _ (h.fb f U) (FB.c f) (tRo.rf t))
theorem KCo.gx {K : Option (List (Nat × Nat × Nat))} (h : KCo I D K) (e : ∀ a, a = 1672 ∨ a = 1716 → I' a = I a) : KCo I' D K := h.to (e 1672 (Or.inl rfl)) (e 1716 (Or.inr rfl))
theorem c_reached {x1 : Int} (hd : 8 ≤ d) (hn : n + 1 < 2147483648) (h : CIv t I s n) (hx : inR x1) (h0 : ¬ (0 ≤ x1 ∧ x1 ≤ 3) → CK0 t I J s n Q 0) (h1 : (0 ≤ x1 ∧ x1 ≤ 3) → CK1 sc d t I J s (n + 1) Q (reA (sD s) x1)) : Go sc d mt_147 0 [vr 42, vi x1] [] (z_cfg t, I, J) Q :=
  k147 hx hd h.1.1 h.2.2.1.1 hn (fun z => (h0 z).go h) (fun z t' I' J' u f X P e => h1 z _ _ _ (h.gx u f X P (h.2.2.1.2.to (e 1481 (Or.inl rfl))) (h.2.2.2.2.1.gx (fun a ha => e a (Or.inr ha)))) f.c (tRo.u u))
theorem c_fewest (hd : 8 ≤ d) (hn : n + 1 < 2147483648) (h : CIv t I s n) (h1 : CK1 sc d t I J (sD s, sB s, sTp s, sFp s, (sMk s, sPs s, sPm s, sLw s), kpN (sD s) false (sK s)) (n + 1) Q (fwA (sD s) false)) : Go sc d mt_22 0 [vr 42] [] (z_cfg t, I, J) Q :=
  k22 hd h.1.1 h.2.2.1.1 hn h.2.2.2.2.1 (fun t' I' J' u f X P k e => h1 _ _ _ (h.gx u f X P (h.2.2.1.2.to e) k) f.c (tRo.u u))
theorem c_quickest (hd : 8 ≤ d) (hn : n + 1 < 2147483648) (h : CIv t I s n) (h1 : CK1 sc d t I J (sD s, sB s, sTp s, sFp s, (sMk s, sPs s, sPm s, sLw s), kpN (sD s) true (sK s)) (n + 1) Q (fwA (sD s) true)) : Go sc d mt_73 0 [vr 42] [] (z_cfg t, I, J) Q :=
  k73 hd h.1.1 h.2.2.1.1 hn h.2.2.2.2.1 (fun t' I' J' u f X P k e => h1 _ _ _ (h.gx u f X P (h.2.2.1.2.to e) k) f.c (tRo.u u))
theorem c_ways (hd : 8 ≤ d) (hn : n + 1 < 2147483648) (h : CIv t I s n) (h1 : CK1 sc d t I J s (n + 1) Q (wysA (sD s))) : Go sc d mt_74 0 [vr 42] [] (z_cfg t, I, J) Q :=
  k74 hd h.1.1 h.2.2.1.1 hn (fun t' I' J' u f X P e => h1 _ _ _ (h.gx u f X P (h.2.2.1.2.to (e 1481 (Or.inl rfl))) (h.2.2.2.2.1.gx (fun a ha => e a (Or.inr ha)))) f.c (tRo.u u))
theorem c_way {x1 x2 : Int} (hd : 3 ≤ d) (h : CIv t I s n) (hx : inR x1) (hx2 : inR x2) (h0 : ¬ (∃ l, sK s = some l ∧ wayOk l x1 x2) → CK0 t I J s n Q 0) (h1 : ∀ l, sK s = some l → wayOk l x1 x2 → CK1 sc d t I J s n Q (wayA (sD s) l x1 x2)) : Go sc d mt_153 0 [vr 42, vi x1, vi x2, vn] [] (z_cfg t, I, J) Q :=
  k153 hx hx2 (by omega) h.1.1.2.2.1.2.1 h.cd.2 h.2.2.2.2.1 (fun z => (h0 z).go h) (fun l z1 z2 => (h1 l z1 z2).go h)
theorem c_where {x1 x2 : Int} (hd : 3 ≤ d) (h : CIv t I s n) (hx : inR x1) (hx2 : inR x2) (h0 : ¬ (∃ l, sK s = some l ∧ (0 ≤ x1 ∧ x1 ≤ (l.length : Int)) ∧ (0 ≤ x2 ∧ x2 < dT (sD s))) → CK0 t I J s n Q 0) (h1 : ∀ l, sK s = some l → (0 ≤ x1 ∧ x1 ≤ (l.length : Int)) → (0 ≤ x2 ∧ x2 < dT (sD s)) → CK1 sc d t I J s n Q ((lshore (aft (sD s) l x1.toNat) x2.toNat : Nat) : Int)) : Go sc d mt_157 0 [vr 42, vi x1, vi x2] [] (z_cfg t, I, J) Q :=
  k157 hx hx2 (by omega) h.cd.1 h.cd.2 h.2.2.2.2.1 (fun z => (h0 z).go h) (fun l z1 z2 z3 => (h1 l z1 z2 z3).go h)
theorem c_rides {x1 x2 : Int} (hd : 3 ≤ d) (h : CIv t I s n) (hx : inR x1) (hx2 : inR x2) (h0 : ¬ (∃ l, sK s = some l ∧ (0 ≤ x1 ∧ x1 < dT (sD s)) ∧ (x2 = 0 ∨ x2 = 1)) → CK0 t I J s n Q 0) (h1 : ∀ l, sK s = some l → (0 ≤ x1 ∧ x1 < dT (sD s)) → (x2 = 0 ∨ x2 = 1) → CK1 sc d t I J s n Q ((if x2 = 0 then cCar l x1.toNat l.length else cAln (sD s) l x1.toNat l.length : Nat) : Int)) : Go sc d mt_161 0 [vr 42, vi x1, vi x2] [] (z_cfg t, I, J) Q :=
  k161 hx hx2 (by omega) h.cd.1 h.cd.2 h.2.2.2.2.1 (fun z => (h0 z).go h) (fun l z1 z2 z3 => (h1 l z1 z2 z3).go h)
theorem c_laws {x1 : Int} (hd : 8 ≤ d) (hn : n + 13 < 2147483648) (h : CIv t I s n) (hx : inR x1) (h0 : ¬ (0 ≤ x1 ∧ x1 ≤ 1) → CK0 t I J s n Q 0) (h1 : (0 ≤ x1 ∧ x1 ≤ 1) → CK1 sc d t I J s (n + 13) Q (lawA (sD s) x1)) : Go sc d mt_166 0 [vr 42, vi x1] [] (z_cfg t, I, J) Q :=
  k166 hx hd h.1.1 h.2.2.1.1 hn h.2.2.1.2 (fun z => (h0 z).go h) (fun z t' I' J' u f X P W e => h1 z _ _ _ (h.gx u f X P W (h.2.2.2.2.1.gx e)) f.c (tRo.u u))
theorem c_size {x1 : Int} (hd : 8 ≤ d) (hn : n + 1001 < 2147483648) (h : CIv t I s n) (hx : inR x1) (h0 : ¬ ((0 ≤ x1 ∧ x1 ≤ 1) ∧ 0 < dB (sD s)) → CK0 t I J s n Q 0) (h1 : ((0 ≤ x1 ∧ x1 ≤ 1) ∧ 0 < dB (sD s)) → CK1 sc d t I J s (n + 1001) Q (szA (sD s) x1)) : Go sc d mt_169 0 [vr 42, vi x1] [] (z_cfg t, I, J) Q :=
  k169 hx hd h.1.1 h.2.2.1.1 hn h.2.2.1.2 (fun z => (h0 z).go h) (fun z t' I' J' u f X P W e => h1 z _ _ _ (h.gx u f X P W (h.2.2.2.2.1.gx e)) f.c (tRo.u u))
theorem c_hint {x1 : Int} {k0 : Nat} (hd : 8 ≤ d) (hn : n + 1 < 2147483648) (h : CIv t I s n) (hO : PO (sD s) (sMk s) (sPs s) (sPm s)) (hk0 : gSp (G0 (sD s)) = false → k0 < gN (G0 (sD s)) ∧ gX (G0 (sD s)) k0 = sPs s (sMk s)) (hx : inR x1) (h0 : ¬ (0 ≤ x1 ∧ x1 ≤ 3) → CK0 t I J s n Q 0) (h1 : (0 ≤ x1 ∧ x1 ≤ 3) → CK1 sc d t I J s (n + 1) Q (hnA (sD s) k0 x1)) : Go sc d mt_180 0 [vr 42, vi x1, vn] [] (z_cfg t, I, J) Q :=
  k180 hx hd h.1.1 h.2.2.1.1 hn h.2.2.2.2.2 hO hk0 (fun z => (h0 z).go h) (fun z t' I' J' u f X P e => h1 z _ _ _ (h.gx u f X P (h.2.2.1.2.to (e 1481 (Or.inl rfl))) (h.2.2.2.2.1.gx (fun a ha => e a (Or.inr ha)))) f.c (tRo.u u))
theorem c_play {x1 : Int} (hd : 2 ≤ d) (h : CIv t I s n) (hO : PO (sD s) (sMk s) (sPs s) (sPm s)) (hx : inR x1) (h0 : ¬ plOk (sD s) x1 → CK0 t I J s n Q 0) (h1 : plOk (sD s) x1 → CK1 sc d t I J s n Q (plA (sD s) (sPs s (sMk s)) (sPm s (sMk s)) x1)) : Go sc d mt_177 0 [vr 42, vi x1, vn] [] (z_cfg t, I, J) Q :=
  k177 hx hd h.cd.1 h.cd.2 h.2.2.2.2.2 hO (fun z => (h0 z).go h) (fun z => (h1 z).go h)
/-- the play alone changes -/
theorem CIv.pl {mk : Nat} {ps pm : Nat → Nat} {lw : Int} (h : CIv t I s n) (hf : FP I I') (hU : RU t I' (sD s)) (hP : PC I' mk ps pm lw) : CIv t I' (sD s, sB s, sTp s, sFp s, (mk, ps, pm, lw), sK s) n := by
  obtain ⟨⟨h1, h2, h3⟩, ⟨h4, h5, h6⟩, ⟨h7, h8⟩, h9, h10, h11⟩ := h
  have e : ∀ a, ¬ a = 884 → ¬ a = 1044 → ¬ (1732 ≤ a ∧ a ≤ 1812) → I' a = I a := fun a a1 a2 a3 => hf a a1 a2 (by omega) (by omega) (by omega)
  have lo : ∀ a, a < 800 → I' a = I a := fun a ha => e a (by omega) (by omega) (by omega)
  refine ⟨⟨⟨h1.1, h1.2.1, hU, fun b i hi => ?_⟩, h2, fun b => (h3 b).low lo⟩, ⟨h4.to (lo 85 (by decide)), by rw [lo 42 (by decide)]; exact h5, by rw [lo 42 (by decide)]; exact h6⟩, ⟨h7.gen rfl rfl rfl rfl (fun _ => rfl) (fun _ c => c.fr (lo _ (zmd_lt _)) (fun k => lo _ (zmf_lt _ k))) (fun a ha => e a (by omega) (by omega) (by omega)), h8.to (e 1481 (by decide) (by decide) (by decide))⟩, h9.to (e 1510 (by decide) (by decide) (by decide)), h10.to (e 1672 (by decide) (by decide) (by decide)) (e 1716 (by decide) (by decide) (by decide)), hP⟩
  rw [lo _ (zmf_lt b 6), lo _ (zmf_lt b 7)]
  exact h1.2.2.2 b i hi
theorem FP.c (hf : FP I I') : cFr I J I' J := fun a h1 h2 => ⟨hf a (by omega) (by omega) (by omega) (by omega) (by omega), rfl⟩
theorem c_cross {x1 x2 x3 : Int} (hd : 6 ≤ d) (h : CIv t I s n) (hO : PO (sD s) (sMk s) (sPs s) (sPm s)) (hx1 : inR x1) (hx2 : inR x2) (hx3 : inR x3) (h1 : CK1 sc d t I J (sD s, sB s, sTp s, sFp s, (nMk (sD s) (sMk s) (sPs s (sMk s)) x1 x2 x3, nPs (sD s) (sMk s) (sPs s) x1 x2 x3, nPm (sD s) (sMk s) (sPs s (sMk s)) (sPm s) x1 x2 x3, crW (sD s) (sMk s) (sPs s (sMk s)) x1 x2 x3), sK s) n Q (crA (sD s) (sMk s) (sPs s (sMk s)) x1 x2 x3)) : Go sc d mt_86 0 [vr 42, vi x1, vi x2, vi x3] [] (z_cfg t, I, J) Q :=
  b86_0 (c87 (by omega) (fun d' _ => k87 hx1 hx2 hx3 (by omega) h.1.1.2.2.1 h.1.2.1 h.2.2.2.2.2 hO (fun I' f U P => b86_10 (h1 _ _ _ (h.pl f U P) (FP.c f) (tRo.rf t)))))
theorem c_back (h : CIv t I s n) (hO : PO (sD s) (sMk s) (sPs s) (sPm s)) (h1 : CK1 sc d t I J (sD s, sB s, sTp s, sFp s, (sMk s - 1, sPs s, sPm s, sLw s), sK s) n Q (if sMk s = 0 then -1 else (sMk s : Int) - 1)) : Go sc d mt_94 0 [vr 42] [] (z_cfg t, I, J) Q :=
  k94 h.2.2.2.2.2 hO.1 (fun I' f P => h1 _ _ _ (h.pl (fun a _ _ a3 _ _ => f a a3) (h.1.1.2.2.1.up rfl (fun a ha => f a (by omega))) P) (FP.c (fun a _ _ a3 _ _ => f a a3)) (tRo.rf t))
theorem c_law (h : CIv t I s n) (h1 : CK1 sc d t I J s n Q (sLw s)) : Go sc d mt_93 0 [vr 42] [] (z_cfg t, I, J) Q := by
  refine b93_0 ?_
  rw [h.2.2.2.2.2.2.1]
  exact h1.go h
theorem c_fault (h : CIv t I s n) (h1 : CK1 sc d t I J s n Q (sFp s)) : Go sc d mt_21 0 [vr 42] [] (z_cfg t, I, J) Q := by
  refine b21_0 ?_
  rw [h.2.1.2.2]
  exact h1.go h
theorem c_rounds (hd : 8 ≤ d) (h : CIv t I s n) (h1 : ∀ A : Int, rAns (sD s) A → (-2 ≤ A ∧ A ≤ 1024) → CK1 sc d t I J s n Q A) : Go sc d mt_75 0 [vr 42] [] (z_cfg t, I, J) Q := by
  have hr := h.2.2.2.1
  have hin : inR (I 1510 0) := by
    rcases hr.1 with z | z
    · rw [z]; exact ⟨by decide, by decide⟩
    · exact ⟨by omega, by omega⟩
  refine b75_0 (c76 (by omega) (fun d' _ => k76 (by omega) h.1.1.2.2.1 (fun i hi => ?_) hr.2 hin (fun z => b75_7 ?_) (fun z I' a f U g5 g0 gA gI => b75_7 ?_)))
  · have g := (h.1.1.2.2.2 (t_rb t) i hi).1
    exact ⟨by omega, by omega⟩
  · rcases hr.1 with q | q
    · exact absurd q z
    · exact (h1 _ q.1 q.2).go h
  · have e : ∀ a, ¬ a = 884 → ¬ a = 1044 → ¬ (1510 ≤ a ∧ a ≤ 1652) → I' a = I a := fun a a1 a2 a3 => f a a1 a2 (by omega) (by omega) (by omega) (by omega) (by omega)
    have lo : ∀ a, a < 800 → I' a = I a := fun a ha => e a (by omega) (by omega) (by omega)
    obtain ⟨⟨h1', h2, h3⟩, ⟨h4, h5, h6⟩, ⟨h7, h8⟩, h9, h10, h11⟩ := h
    have hX : TX (t_sob t (t_rb t)) I' (sD s) := by
      refine ⟨(eOk_to (t := t) (t' := t_sob t (t_rb t)) rfl rfl rfl).1 h1'.1, h1'.2.1, U, fun b i hi => ?_⟩
      rw [lo _ (zmf_lt b 6), lo _ (zmf_lt b 7)]
      exact h1'.2.2.2 b i hi
    refine h1 a gA gI (t_sob t (t_rb t)) I' J ⟨⟨hX, h2, fun b => (h3 b).low lo⟩, ⟨h4.to (lo 85 (by decide)), by rw [lo 42 (by decide)]; exact h5, by rw [lo 42 (by decide)]; exact h6⟩, ⟨h7.gen rfl rfl rfl rfl (fun _ => rfl) (fun _ c => c.fr (lo _ (zmd_lt _)) (fun k => lo _ (zmf_lt _ k))) (fun a ha => e a (by omega) (by omega) (by omega)), h8.to (e 1481 (by decide) (by decide) (by decide))⟩, ⟨Or.inr (by rw [g0]; exact ⟨gA, gI⟩), g5⟩, h10.to (e 1672 (by decide) (by decide) (by decide)) (e 1716 (by decide) (by decide) (by decide)), h11.to (e 1732 (by decide) (by decide) (by decide)) (e 1780 (by decide) (by decide) (by decide)) (e 1812 (by decide) (by decide) (by decide))⟩ (fun a a1 a2 => ⟨e a (by omega) (by omega) (by omega), rfl⟩) (tRo.to rfl rfl rfl)
end
