/-! ===== the class: what holds of its text and of its graph between calls; explore ===== -/
noncomputable def G0 (D : tD) : gS := gAll D (acts D (-1)) (dHo D 0) (dLo D 0)
noncomputable def TT (D : tD) (tm : Bool) : Nat → Int := if tm = true then tQ D (G0 D) 4096 else dst D (G0 D)
theorem exK_nb {D : tD} {act ho lo ho' lo' k : Nat} {g : gS} (h : dB D = 0) : exK D act ho lo k g = exK D act ho' lo' k g := by
  unfold exK
  split
  · unfold exB
    rw [h]
    rfl
  · rfl
theorem gAll_nb {D : tD} {act ho lo ho' lo' : Nat} (h : dB D = 0) : gAll D act ho lo = gAll D act ho' lo' := by
  have A : ∀ (f k : Nat) (g : gS), gRun D act ho lo f k g = gRun D act ho' lo' f k g := by
    intro f
    induction f with
    | zero => intro k g; rfl
    | succ f ih =>
      intro k g
      show (if k < gN g ∧ gSp g = false then gRun D act ho lo f (k + 1) (g_f (exK D act ho lo k g) (k + 1)) else g) = (if k < gN g ∧ gSp g = false then gRun D act ho' lo' f (k + 1) (g_f (exK D act ho' lo' k g) (k + 1)) else g)
      rw [ih, exK_nb h]
  exact A 2001 0 (g0 D)
/-- the text in use: Model, Rules -/
def TX (t : zT) (I : Nat → Nat → Int) (D : tD) : Prop := eOk t ∧ t_b t = t_rb t ∧ RU t I D ∧ ∀ (b : Bool) (i : Nat), i < 2 → (0 ≤ I (z_mf b 6) i ∧ I (z_mf b 6) i < 2147483648) ∧ (0 ≤ I (z_mf b 7) i ∧ I (z_mf b 7) i < 2147483648)
/-- Graph and Paths -/
def GP (t : zT) (I : Nat → Nat → Int) (D : tD) (n : Nat) : Prop := (0 ≤ I 1057 1 ∧ I 1057 1 ≤ n) ∧ (0 ≤ I 1283 1 ∧ I 1283 1 ≤ I 1057 1) ∧ inR (I 1283 2) ∧ inR (I 1283 3) ∧ (I 1057 0 = 0 ∨ (I 1057 0 = 1 ∧ 1 ≤ I 1057 1 ∧ t_gb t = t_rb t ∧ GB t I D (acts D (-1)) (G0 D) ∧ (gSp (G0 D) = false → I 1283 1 = I 1057 1 → ∀ (s : Nat) (tm : Bool), I 1283 2 = s → I 1283 3 = ((tm.toNat : Nat) : Int) → MZ D (G0 D) tm (TT D tm) s I)))
/-- how the table may change -/
def tU (t t' : zT) : Prop := (t_b t' = t_b t ∧ t_rb t' = t_rb t ∧ t_ob t' = t_ob t ∧ t_pb t' = t_pb t ∧ t_eb t' = t_eb t) ∧ rS t' = rS t ∧ rC t' = rC t
theorem tU.rf (t : zT) : tU t t := ⟨⟨rfl, rfl, rfl, rfl, rfl⟩, rfl, rfl⟩
theorem tU.tr {t t1 t2 : zT} (h : tU t t1) (h' : tU t1 t2) : tU t t2 := ⟨⟨h'.1.1.trans h.1.1, h'.1.2.1.trans h.1.2.1, h'.1.2.2.1.trans h.1.2.2.1, h'.1.2.2.2.1.trans h.1.2.2.2.1, h'.1.2.2.2.2.trans h.1.2.2.2.2⟩, h'.2.1.trans h.2.1, h'.2.2.trans h.2.2⟩
theorem tU_of {t t' : zT} (h : tR (t_sgb t (t_rb t)) t') : tU t t' := by
  obtain ⟨-, k2, k3, -⟩ := eOk_to (t := t) (t' := t_sgb t (t_rb t)) rfl rfl rfl
  obtain ⟨⟨a1, a2, a3, a4, a5, a6⟩, -, a7, a8⟩ := h
  exact ⟨⟨a1, a2, a4, a5, a6⟩, a7.trans k2, a8.trans k3⟩
theorem FU.rf (I J : Nat → Nat → Int) : FU I I J J := ⟨fun _ _ _ _ _ _ _ _ _ _ _ => rfl, fun _ _ => rfl⟩
theorem FU.tr {I I1 I2 J J1 J2 : Nat → Nat → Int} (h : FU I I1 J J1) (h' : FU I1 I2 J1 J2) : FU I I2 J J2 := ⟨fun a h1 h2 h3 h4 h5 h6 h7 h8 h9 h10 => (h'.1 a h1 h2 h3 h4 h5 h6 h7 h8 h9 h10).trans (h.1 a h1 h2 h3 h4 h5 h6 h7 h8 h9 h10), fun a ha => (h'.2 a ha).trans (h.2 a ha)⟩
section
variable {sc : mS} {d : Nat} {t : zT} {I J : Nat → Nat → Int} {Q : zR → zW → Prop} {D : tD}
theorem TX.fu {t' : zT} {I' J' : Nat → Nat → Int} (h : TX t I D) (ht : tR (t_sgb t (t_rb t)) t') (hf : FU I I' J J') (hU : RU t' I' D) : TX t' I' D := by
  have hu := tU_of ht
  refine ⟨ht.2.1, by rw [hu.1.1, hu.1.2.1]; exact h.2.1, hU, fun b i hi => ?_⟩
  have e6 := hf.1 (z_mf b 6) (by have := zmf_lt b 6; omega) (by have := zmf_lt b 6; omega) (by have := zmf_lt b 6; omega) (by have := zmf_lt b 6; omega) (by have := zmf_lt b 6; omega) (by have := zmf_lt b 6; omega) (by have := zmf_lt b 6; omega) (by have := zmf_lt b 6; omega) (by have := zmf_lt b 6; omega) (by have := zmf_lt b 6; omega)
  have e7 := hf.1 (z_mf b 7) (by have := zmf_lt b 7; omega) (by have := zmf_lt b 7; omega) (by have := zmf_lt b 7; omega) (by have := zmf_lt b 7; omega) (by have := zmf_lt b 7; omega) (by have := zmf_lt b 7; omega) (by have := zmf_lt b 7; omega) (by have := zmf_lt b 7; omega) (by have := zmf_lt b 7; omega) (by have := zmf_lt b 7; omega)
  rw [e6, e7]
  exact h.2.2.2 b i hi
/-- Graph.build with what the text tells of boat 0 -/
theorem TX.hold (h : TX t I D) : ∃ ho lo : Nat, I (z_mf (t_rb t) 6) 0 = ho ∧ I (z_mf (t_rb t) 7) 0 = lo ∧ ho < 2147483648 ∧ lo < 2147483648 ∧ (0 < dB D → ho = dHo D 0 ∧ lo = dLo D 0) := by
  have h1 := h.2.2.2 (t_rb t) 0 (by decide)
  refine ⟨(I (z_mf (t_rb t) 6) 0).toNat, (I (z_mf (t_rb t) 7) 0).toNat, by omega, by omega, by omega, by omega, fun hb => ?_⟩
  have h2 := h.2.2.1.1.2.2.2.2.2.2.1 0 hb
  rw [h2.1, h2.2.1]
  exact ⟨Int.toNat_natCast _, Int.toNat_natCast _⟩
theorem GB.rdy {I' : Nat → Nat → Int} {act : Nat} {g : gS} (h : GB t I D act g) (hf : ∀ a, ¬ a = 1057 → I' a = I a) (hk : ∀ k, ¬ k = 0 → I' 1057 k = I 1057 k) : GB t I' D act g := by
  obtain ⟨h1, h2, h3, h4, h5, h6⟩ := h
  have hte := h1.2.2.2
  refine ⟨h1, h2.fr (hf _ (by have := zmd_lt (t_gb t); omega)) (fun k => hf _ (by have := zmf_lt (t_gb t) k; omega)), h3, ?_, h5, fun z i hi => by rw [hf 1172 (by decide)]; exact h6 z i hi⟩
  have e1 : ∀ a, a = 1108 ∨ a = 1140 ∨ a = 1236 ∨ a = t_e t → I' a = I a := fun a ha => hf a (by omega)
  rcases h4 with ⟨a1, a2, a3, a4⟩ | ⟨a1, a2, a3, a4, a5, a6⟩
  · exact Or.inl ⟨a1, by rw [hk 2 (by decide)]; exact a2, by rw [hk 3 (by decide)]; exact a3, fun i hi => by rw [e1 1108 (by omega)]; exact a4 i hi⟩
  · refine Or.inr ⟨a1, by rw [hk 2 (by decide)]; exact a2, by rw [hk 4 (by decide)]; exact a3, ?_, fun e he => by rw [e1 (t_e t) (by omega)]; exact a5 e he, a6⟩
    obtain ⟨b1, ⟨T, b2⟩, b3, b4⟩ := a4
    refine ⟨by rw [hk 3 (by decide)]; exact b1, ⟨T, ?_⟩, fun k hk' => by rw [e1 1140 (by omega)]; exact b3 k hk', by rw [hk 5 (by decide)]; exact b4⟩
    unfold CS at b2 ⊢
    rw [e1 1108 (by omega), e1 1236 (by omega)]
    exact b2
theorem k23 {n : Nat} (hd : 7 ≤ d) (hX : TX t I D) (hP : GP t I D n) (hn : n + 1 < 2147483648)
    (h : ∀ (t' : zT) (I' J' : Nat → Nat → Int), tU t t' → FU I I' J J' → TX t' I' D → GP t' I' D (n + 1) → I' 1057 0 = 1 → GB t' I' D (acts D (-1)) (G0 D) → t_gb t' = t_rb t' → Q (.inl (some (vi (if gSp (G0 D) = true then 0 else 1)))) (z_cfg t', I', J')) :
    Go sc d mt_23 0 [vr 42] [] (z_cfg t, I, J) Q := by
  have hD := hX.2.2.1.2.2.2
  have fin : ∀ (t' : zT) (I' J' : Nat → Nat → Int), GB t' I' D (acts D (-1)) (G0 D) → Q (.inl (some (vi (if gSp (G0 D) = true then 0 else 1)))) (z_cfg t', I', J') → Go sc d mt_23 51 [vr 42] [] (z_cfg t', I', J') Q := by
    intro t' I' J' hG hq
    refine b23_51 ?_
    rcases hG.2.2.2.1 with ⟨a1, a2, -⟩ | ⟨a1, a2, -⟩
    · rw [a1, if_pos rfl] at hq
      rw [a2]
      exact ⟨⟨by decide, by decide⟩, fun z => absurd z (by decide), fun _ => hq⟩
    · rw [a1, if_neg (by decide)] at hq
      rw [a2]
      exact ⟨⟨by decide, by decide⟩, fun _ => hq, fun z => absurd rfl z⟩
  obtain ⟨p1, p2, p3, p4, p5⟩ := hP
  rcases p5 with z | ⟨z, hbd, hgb, hG, hmz⟩
  · refine b23_0 ?_
    rw [z]
    refine ⟨⟨by decide, by decide⟩, fun _ => ?_, fun q => absurd rfl q⟩
    refine c24 (by omega) (fun d' _ => k24 hX.2.2.1 (b23_21 ?_))
    obtain ⟨ho, lo, e6, e7, l6, l7, hb⟩ := hX.hold
    rw [hX.2.1, e6, e7]
    have hs := hX.2.2.2 (t_rb t) 1 (by decide)
    refine c25 (by omega) (fun d' _ => k25 (act := acts D (-1)) (by rw [acts_all]) rfl rfl (by omega) hX.2.2.1 hX.1 (acts_lt hD _) l6 l7 hs.1 hs.2 (fun t' I' J' ht hf g0 g1 gk hU hGB => b23_42 ?_))
    have hgg : gAll D (acts D (-1)) ho lo = G0 D := by
      rcases Nat.eq_zero_or_pos (dB D) with q | q
      · exact gAll_nb q
      · rw [(hb q).1, (hb q).2]; rfl
    rw [hgg] at hGB
    have hf2 : ∀ a, ¬ a = 1057 → z_u I' 1057 0 1 a = I' a := fun a ha => zu_ne ha
    have hGB2 : GB t' (z_u I' 1057 0 1) D (acts D (-1)) (G0 D) := hGB.rdy hf2 (fun k hk => zu_nk hk)
    have f2 : FU I (z_u I' 1057 0 1) J J' := ⟨fun a a1 a2 a3 a4 a5 a6 a7 a8 a9 a10 => by rw [zu_ne a4]; exact hf.1 a a1 a2 a3 a4 a5 a6 a7 a8 a9 a10, hf.2⟩
    have hU2 : RU t' (z_u I' 1057 0 1) D := hU.up rfl (fun a ha => hf2 a (by omega))
    have i3 : z_u I' 1057 0 1 1283 = I 1283 := by rw [zu_ne (by decide : ¬ 1283 = 1057)]; exact hf.1 1283 (by decide) (by decide) (by decide) (by decide) (by decide) (by decide) (by decide) (by decide) (by decide) (by decide)
    have hgb' : t_gb t' = t_rb t' := by rw [ht.1.2.2.1, ht.1.2.1]; rfl
    refine fin t' _ J' hGB2 (h t' _ J' (tU_of ht) f2 (hX.fu ht f2 hU2) ⟨?_, ?_, by rw [i3]; exact p3, by rw [i3]; exact p4, Or.inr ⟨zu_same _ _ _ _, ?_, hgb', hGB2, fun _ y => ?_⟩⟩ (zu_same _ _ _ _) hGB2 hgb')
    · rw [zu_nk (by decide : ¬ 1 = 0), g1]; omega
    · rw [i3, zu_nk (by decide : ¬ 1 = 0), g1]; omega
    · rw [zu_nk (by decide : ¬ 1 = 0), g1]; omega
    · rw [i3, zu_nk (by decide : ¬ 1 = 0), g1] at y; omega
  · refine b23_0 ?_
    rw [z]
    refine ⟨⟨by decide, by decide⟩, fun q => absurd q (by decide), fun _ => ?_⟩
    exact fin t I J hG (h t I J (tU.rf t) (FU.rf I J) hX ⟨by omega, p2, p3, p4, Or.inr ⟨z, hbd, hgb, hG, hmz⟩⟩ z hG hgb)
end
