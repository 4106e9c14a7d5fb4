/-! ===== count, thing, boat, water, play: both sides ===== -/
def cntA (D : tD) (mk tp : Nat) (x : Int) : Int := if x = 0 then (dS D : Int) else if x = 1 then (dT D : Int) else if x = 2 then (dB D : Int) else if x = 3 then (dL D : Int) else if x = 4 then (if dLamp D = -1 then 0 else 1) else if x = 5 then (mk : Int) else (tp : Int)
def thA (D : tD) (x1 x2 : Int) : Int := if x2 = 0 then (dWt D x1.toNat : Int) else if x2 = 1 then (dMi D x1.toNat : Int) else (dLe D x1.toNat : Int)
def btA (D : tD) (x1 x2 : Int) : Int := if x2 = 0 then (dHo D x1.toNat : Int) else if x2 = 1 then (dLo D x1.toNat : Int) else (dAt D x1.toNat : Int)
def plOk (D : tD) (x : Int) : Prop := (0 ≤ x ∧ x ≤ 2) ∨ (4 ≤ x ∧ x < 4 + dB D) ∨ (8 ≤ x ∧ x < 8 + dT D)
def plA (D : tD) (s m : Nat) (x : Int) : Int := if x = 0 then (m : Int) else if x = 1 then (((dGoal D s).toNat : Nat) : Int) else if x = 2 then (if dLamp D = -1 then -1 else (llamp s : Int)) else if x < 8 then ((lberth s (x - 4).toNat : Nat) : Int) else ((lshore s (x - 8).toNat : Nat) : Int)
section
variable {sc : mS} {d : Nat} {t : zT} {I J : Nat → Nat → Int} {Q : zR → zW → Prop} {D : tD} {ho lo : Nat}
theorem k133 {x1 : Int} {mk tp : Nat} (hx : inR x1) (hC : CD (t_b t) I D) (hD : dOk D) (hm : I 1732 0 = mk) (ht : I 42 1 = tp) (hno : ¬ (0 ≤ x1 ∧ x1 ≤ 6) → Q (.inr 0) (z_cfg (t_th t), z_zr I (aTh t), z_zr J (aTh t))) (h : (0 ≤ x1 ∧ x1 ≤ 6) → Q (.inl (some (vi (cntA D mk tp x1)))) (z_cfg t, I, J)) : Go sc d mt_133 0 [vr 42, vi x1] [] (z_cfg t, I, J) Q := by
  unfold cntA at h
  refine b133_0 ?_
  rw [x_th, hC.1, hC.2.1, hC.2.2.1, hC.2.2.2.1, hC.2.2.2.2.1, hm, ht]
  refine ⟨hx, ⟨fun c => ?_, fun c => ?_, fun c => ?_, fun c => ?_, fun c => ⟨lamp_in hD, fun c2 => ?_, fun c2 => ?_⟩, fun c => ?_, fun c => ?_, trivial⟩, fun c => hno (by omega)⟩
  all_goals have h := h (by omega)
  · rw [if_pos c] at h; exact h
  · rw [if_neg (by omega), if_pos c] at h; exact h
  · rw [if_neg (by omega), if_neg (by omega), if_pos c] at h; exact h
  · rw [if_neg (by omega), if_neg (by omega), if_neg (by omega), if_pos c] at h; exact h
  · rw [if_neg (by omega), if_neg (by omega), if_neg (by omega), if_neg (by omega), if_pos c, if_pos c2] at h; exact h
  · rw [if_neg (by omega), if_neg (by omega), if_neg (by omega), if_neg (by omega), if_pos c, if_neg c2] at h; exact h
  · rw [if_neg (by omega), if_neg (by omega), if_neg (by omega), if_neg (by omega), if_neg (by omega), if_pos c] at h; exact h
  · rw [if_neg (by omega), if_neg (by omega), if_neg (by omega), if_neg (by omega), if_neg (by omega), if_neg (by omega)] at h; exact h
theorem k233 {x1 : Int} {mk tp : Nat} (hx : inR x1) (hd : 1 ≤ d) (hR : RD I D ho lo) (hD : dOk D) (hm : I 1835 84 = mk) (ht : I 1835 18 = tp) (hno : ¬ (0 ≤ x1 ∧ x1 ≤ 6) → Q (.inl (some (vi 0))) (z_cfg t, z_u (z_u I 1835 0 0) 1835 0 1, J)) (h : (0 ≤ x1 ∧ x1 ≤ 6) → Q (.inl (some (vi (cntA D mk tp x1)))) (z_cfg t, z_u I 1835 0 0, J)) : Go sc d mt_233 0 [vr 1835, vi x1] [] (z_cfg t, I, J) Q := by
  have bad : ¬ (0 ≤ x1 ∧ x1 ≤ 6) → Go sc d mt_233 20 [vr 1835, vi x1] [vr 1835] (z_cfg t, z_u I 1835 0 0, J) Q := fun hb => b233_20 (b233_21 (c189 hd (fun d' _ => k189n rfl (zu_same _ _ _ _) (b233_25 ⟨⟨by decide, by decide⟩, fun _ => hno hb, fun z => absurd rfl z⟩))))
  refine b233_0 ⟨hx, fun c => bad (by omega), fun c => ⟨fun c2 => bad (by omega), fun c2 => ?_⟩⟩
  have h := h (by omega)
  refine b233_21 (c189 hd (fun d' _ => k189y rfl (zu_same _ _ _ _) (b233_25 ?_)))
  have e : ∀ k, ¬ k = 0 → z_u I 1835 0 0 1835 k = I 1835 k := fun k hk => zu_nk hk
  unfold cntA at h
  rw [e 1 (by decide), e 2 (by decide), e 3 (by decide), e 4 (by decide), e 5 (by decide), e 84 (by decide), e 18 (by decide), hR.1, hR.2.1, hR.2.2.1, hR.2.2.2.1, hR.2.2.2.2.1, hm, ht]
  refine ⟨⟨by decide, by decide⟩, fun z => absurd z (by decide), fun _ => ⟨hx, ⟨fun c => ?_, fun c => ?_, fun c => ?_, fun c => ?_, fun c => ⟨lamp_in hD, fun c2 => ?_, fun c2 => ?_⟩, fun c => ?_, trivial⟩, fun c => ?_⟩⟩
  · rw [if_pos c] at h; exact h
  · rw [if_neg (by omega), if_pos c] at h; exact h
  · rw [if_neg (by omega), if_neg (by omega), if_pos c] at h; exact h
  · rw [if_neg (by omega), if_neg (by omega), if_neg (by omega), if_pos c] at h; exact h
  · rw [if_neg (by omega), if_neg (by omega), if_neg (by omega), if_neg (by omega), if_pos c, if_pos c2] at h; exact h
  · rw [if_neg (by omega), if_neg (by omega), if_neg (by omega), if_neg (by omega), if_pos c, if_neg c2] at h; exact h
  · rw [if_neg (by omega), if_neg (by omega), if_neg (by omega), if_neg (by omega), if_neg (by omega), if_pos c] at h; exact h
  · rw [if_neg (by omega), if_neg (by omega), if_neg (by omega), if_neg (by omega), if_neg (by omega), if_neg (by omega)] at h; exact h
theorem k135 {x1 x2 : Int} (h1 : inR x1) (h2 : inR x2) (hd : 1 ≤ d) (hC : CD (t_b t) I D) (hD : dOk D) (hno : ¬ ((0 ≤ x1 ∧ x1 < dT D) ∧ (0 ≤ x2 ∧ x2 ≤ 2)) → Q (.inr 0) (z_cfg (t_th t), z_zr I (aTh t), z_zr J (aTh t))) (h : ((0 ≤ x1 ∧ x1 < dT D) ∧ (0 ≤ x2 ∧ x2 ≤ 2)) → Q (.inl (some (vi (thA D x1 x2)))) (z_cfg t, I, J)) : Go sc d mt_135 0 [vr 42, vi x1, vi x2] [] (z_cfg t, I, J) Q := by
  have h8 := hD.2.1
  refine b135_0 (c136 hd (fun d' _ => k136 h1 hC hD (fun hb => hno (fun z => hb z.1)) (fun hr => b135_5 ?_)))
  have hr3 := hC.2.2.2.2.2.1 x1.toNat (by omega)
  unfold thA at h
  rw [x_th, hr3.1, hr3.2.1, hr3.2.2]
  refine ⟨h2, ⟨fun c => ⟨⟨by omega, by omega⟩, ?_⟩, fun c => ⟨⟨by omega, by omega⟩, ?_⟩, fun c => ⟨⟨by omega, by omega⟩, ?_⟩, trivial⟩, fun c => hno (by omega)⟩
  all_goals have h := h (by omega)
  · rw [if_pos c] at h; exact h
  · rw [if_neg (by omega), if_pos c] at h; exact h
  · rw [if_neg (by omega), if_neg (by omega)] at h; exact h
theorem k234 {x1 x2 : Int} (h1 : inR x1) (h2 : inR x2) (hd : 1 ≤ d) (hR : RD I D ho lo) (hD : dOk D) (hno : ¬ ((0 ≤ x1 ∧ x1 < dT D) ∧ (0 ≤ x2 ∧ x2 ≤ 2)) → Q (.inl (some (vi 0))) (z_cfg t, z_u (z_u I 1835 0 0) 1835 0 1, J)) (h : ((0 ≤ x1 ∧ x1 < dT D) ∧ (0 ≤ x2 ∧ x2 ≤ 2)) → Q (.inl (some (vi (thA D x1 x2)))) (z_cfg t, z_u I 1835 0 0, J)) : Go sc d mt_234 0 [vr 1835, vi x1, vi x2] [] (z_cfg t, I, J) Q := by
  have h8 := hD.2.1
  have bad : ¬ ((0 ≤ x1 ∧ x1 < dT D) ∧ (0 ≤ x2 ∧ x2 ≤ 2)) → Go sc d mt_234 31 [vr 1835, vi x1, vi x2] [vr 1835] (z_cfg t, z_u I 1835 0 0, J) Q := fun hb => b234_31 (b234_32 (c189 hd (fun d' _ => k189n rfl (zu_same _ _ _ _) (b234_36 ⟨⟨by decide, by decide⟩, fun _ => hno hb, fun z => absurd rfl z⟩))))
  refine b234_0 ?_
  rw [hR.2.1]
  refine ⟨h1, fun c => bad (by omega), fun c => ⟨⟨by omega, by omega⟩, fun c2 => ⟨h2, fun c3 => bad (by omega), fun c3 => ⟨fun c4 => bad (by omega), fun c4 => ?_⟩⟩, fun c2 => bad (by omega)⟩⟩
  have h := h (by omega)
  have hr3 := hR.2.2.2.2.2.1 x1.toNat (by omega)
  refine b234_32 (c189 hd (fun d' _ => k189y rfl (zu_same _ _ _ _) (b234_36 ?_)))
  unfold thA at h
  rw [zu_ne (by decide : ¬ 1876 = 1835), zu_ne (by decide : ¬ 1908 = 1835), zu_ne (by decide : ¬ 1940 = 1835), hr3.1, hr3.2.1, hr3.2.2]
  refine ⟨⟨by decide, by decide⟩, fun z => absurd z (by decide), fun _ => ⟨h2, fun c => ⟨⟨by omega, by omega⟩, ?_⟩, fun c => ⟨fun c2 => ⟨⟨by omega, by omega⟩, ?_⟩, fun c2 => ⟨⟨by omega, by omega⟩, ?_⟩⟩⟩⟩
  · rw [if_pos c] at h; exact h
  · rw [if_neg c, if_pos c2] at h; exact h
  · rw [if_neg c, if_neg c2] at h; exact h
theorem k138 {x1 x2 : Int} (h1 : inR x1) (h2 : inR x2) (hC : CD (t_b t) I D) (hD : dOk D) (hno : ¬ ((0 ≤ x1 ∧ x1 < dB D) ∧ (0 ≤ x2 ∧ x2 ≤ 2)) → Q (.inr 0) (z_cfg (t_th t), z_zr I (aTh t), z_zr J (aTh t))) (h : ((0 ≤ x1 ∧ x1 < dB D) ∧ (0 ≤ x2 ∧ x2 ≤ 2)) → Q (.inl (some (vi (btA D x1 x2)))) (z_cfg t, I, J)) : Go sc d mt_138 0 [vr 42, vi x1, vi x2] [] (z_cfg t, I, J) Q := by
  have h8 := hD.2.2.1
  unfold btA at h
  refine b138_0 ?_
  rw [x_th, hC.2.2.1]
  refine ⟨h1, fun c => hno (by omega), fun c => ⟨⟨by omega, by omega⟩, fun c2 => ⟨fun c3 => ?_, fun z => by omega⟩, fun c2 => hno (by omega)⟩⟩
  have hr3 := hC.2.2.2.2.2.2.1 x1.toNat (by omega)
  rw [hr3.1, hr3.2.1, hr3.2.2]
  refine ⟨h2, ⟨fun c => ?_, fun c => ?_, fun c => ?_, trivial⟩, fun c => hno (by omega)⟩
  all_goals have h := h (by omega)
  · rw [if_pos c] at h; exact h
  · rw [if_neg (by omega), if_pos c] at h; exact h
  · rw [if_neg (by omega), if_neg (by omega)] at h; exact h
theorem k235 {x1 x2 : Int} (h1 : inR x1) (h2 : inR x2) (hd : 1 ≤ d) (hR : RD I D (dHo D 0) (dLo D 0)) (hD : dOk D) (hno : ¬ ((0 ≤ x1 ∧ x1 < dB D) ∧ (0 ≤ x2 ∧ x2 ≤ 2)) → Q (.inl (some (vi 0))) (z_cfg t, z_u (z_u I 1835 0 0) 1835 0 1, J)) (h : ((0 ≤ x1 ∧ x1 < dB D) ∧ (0 ≤ x2 ∧ x2 ≤ 2)) → Q (.inl (some (vi (btA D x1 x2)))) (z_cfg t, z_u I 1835 0 0, J)) : Go sc d mt_235 0 [vr 1835, vi x1, vi x2] [] (z_cfg t, I, J) Q := by
  have h8 := hD.2.2.1
  have bad : ¬ ((0 ≤ x1 ∧ x1 < dB D) ∧ (0 ≤ x2 ∧ x2 ≤ 2)) → Go sc d mt_235 31 [vr 1835, vi x1, vi x2] [vr 1835] (z_cfg t, z_u I 1835 0 0, J) Q := fun hb => b235_31 (b235_32 (c189 hd (fun d' _ => k189n rfl (zu_same _ _ _ _) (b235_36 ⟨⟨by decide, by decide⟩, fun _ => hno hb, fun z => absurd rfl z⟩))))
  refine b235_0 ?_
  rw [hR.2.2.1]
  refine ⟨h1, fun c => bad (by omega), fun c => ⟨⟨by omega, by omega⟩, fun c2 => ⟨h2, fun c3 => bad (by omega), fun c3 => ⟨fun c4 => bad (by omega), fun c4 => ?_⟩⟩, fun c2 => bad (by omega)⟩⟩
  have h := h (by omega)
  have hr3 := hR.2.2.2.2.2.2.1 x1.toNat (by omega)
  have eh : (if x1.toNat = 0 then dHo D 0 else dHo D x1.toNat) = dHo D x1.toNat := by
    split
    · rename_i q; rw [q]
    · rfl
  have el : (if x1.toNat = 0 then dLo D 0 else dLo D x1.toNat) = dLo D x1.toNat := by
    split
    · rename_i q; rw [q]
    · rfl
  refine b235_32 (c189 hd (fun d' _ => k189y rfl (zu_same _ _ _ _) (b235_36 ?_)))
  unfold btA at h
  rw [zu_ne (by decide : ¬ 1972 = 1835), zu_ne (by decide : ¬ 2004 = 1835), zu_ne (by decide : ¬ 2036 = 1835), hr3.1, hr3.2.1, hr3.2.2, eh, el]
  refine ⟨⟨by decide, by decide⟩, fun z => absurd z (by decide), fun _ => ⟨h2, fun c => ⟨⟨by omega, by omega⟩, ?_⟩, fun c => ⟨fun c2 => ⟨⟨by omega, by omega⟩, ?_⟩, fun c2 => ⟨⟨by omega, by omega⟩, ?_⟩⟩⟩⟩
  · rw [if_pos c] at h; exact h
  · rw [if_neg c, if_pos c2] at h; exact h
  · rw [if_neg c, if_neg c2] at h; exact h
theorem k140 {x1 x2 : Int} (h1 : inR x1) (h2 : inR x2) (hd : 1 ≤ d) (hC : CD (t_b t) I D) (hD : dOk D) (hno : ¬ ((0 ≤ x1 ∧ x1 < dS D) ∧ (0 ≤ x2 ∧ x2 < dS D)) → Q (.inr 0) (z_cfg (t_th t), z_zr I (aTh t), z_zr J (aTh t))) (h : ((0 ≤ x1 ∧ x1 < dS D) ∧ (0 ≤ x2 ∧ x2 < dS D)) → Q (.inl (some (vi (((dFlow D x1.toNat x2.toNat).toNat : Nat) : Int)))) (z_cfg t, I, J)) : Go sc d mt_140 0 [vr 42, vi x1, vi x2] [] (z_cfg t, I, J) Q := by
  have h8 := hD.1
  refine b140_0 ?_
  rw [x_th, hC.1]
  refine ⟨h1, fun c => hno (by omega), fun c => ⟨⟨by omega, by omega⟩, fun c2 => ⟨h2, fun c3 => hno (by omega), fun c3 => ⟨fun c4 => ?_, fun c4 => hno (by omega)⟩⟩, fun c2 => hno (by omega)⟩⟩
  have h := h (by omega)
  refine c50 hd (fun d' _ => k50 (i := x1.toNat) (j := x2.toNat) (by omega) (by omega) (by omega) (by omega) hC hD (b140_49 ⟨?_, h⟩))
  cases dFlow D x1.toNat x2.toNat
  · exact Or.inl rfl
  · exact Or.inr rfl
theorem k236 {x1 x2 : Int} (h1 : inR x1) (h2 : inR x2) (hd : 1 ≤ d) (hV : RV I D ho lo) (hno : ¬ ((0 ≤ x1 ∧ x1 < dS D) ∧ (0 ≤ x2 ∧ x2 < dS D)) → Q (.inl (some (vi 0))) (z_cfg t, z_u (z_u I 1835 0 0) 1835 0 1, J)) (h : ((0 ≤ x1 ∧ x1 < dS D) ∧ (0 ≤ x2 ∧ x2 < dS D)) → Q (.inl (some (vi (((dFlow D x1.toNat x2.toNat).toNat : Nat) : Int)))) (z_cfg t, z_u I 1835 0 0, J)) : Go sc d mt_236 0 [vr 1835, vi x1, vi x2] [] (z_cfg t, I, J) Q := by
  have hD := hV.2.2
  have h8 := hD.1
  have bad : ¬ ((0 ≤ x1 ∧ x1 < dS D) ∧ (0 ≤ x2 ∧ x2 < dS D)) → Go sc d mt_236 34 [vr 1835, vi x1, vi x2] [vr 1835] (z_cfg t, z_u I 1835 0 0, J) Q := fun hb => b236_34 (b236_35 (c189 hd (fun d' _ => k189n rfl (zu_same _ _ _ _) (b236_39 ⟨⟨by decide, by decide⟩, fun _ => hno hb, fun z => absurd rfl z⟩))))
  refine b236_0 ?_
  rw [hV.1.1]
  refine ⟨h1, fun c => bad (by omega), fun c => ⟨⟨by omega, by omega⟩, fun c2 => ⟨h2, fun c3 => bad (by omega), fun c3 => ⟨fun c4 => ?_, fun c4 => bad (by omega)⟩⟩, fun c2 => bad (by omega)⟩⟩
  have h := h (by omega)
  refine b236_35 (c189 hd (fun d' _ => k189y rfl (zu_same _ _ _ _) (b236_39 ⟨⟨by decide, by decide⟩, fun z => absurd z (by decide), fun _ => ?_⟩)))
  refine c237 hd (fun d' _ => k237 (i := x1.toNat) (j := x2.toNat) (by omega) (by omega) (by omega) (by omega) hV.f0.1 (b236_50 ⟨?_, h⟩))
  cases dFlow D x1.toNat x2.toNat
  · exact Or.inl rfl
  · exact Or.inr rfl
theorem k177 {x1 : Int} {mk : Nat} {ps pm : Nat → Nat} {lw : Int} (hx : inR x1) (hd : 2 ≤ d) (hC : CD (t_b t) I D) (hD : dOk D) (hP : PC I mk ps pm lw) (hO : PO D mk ps pm) (hno : ¬ plOk D x1 → Q (.inr 0) (z_cfg (t_th t), z_zr I (aTh t), z_zr J (aTh t))) (h : plOk D x1 → Q (.inl (some (vi (plA D (ps mk) (pm mk) x1)))) (z_cfg t, I, J)) : Go sc d mt_177 0 [vr 42, vi x1, vn] [] (z_cfg t, I, J) Q := by
  obtain ⟨p0, p1, p2⟩ := hP
  have hmk := hO.1
  obtain ⟨s1, s2, -⟩ := hO.2.2.2 mk (Nat.le_refl _)
  have hB := hD.2.2.1
  have hT := hD.2.1
  unfold plA plOk at h
  unfold plOk at hno
  refine b177_0 (c89 (by omega) (fun d' _ => k89 p0 hmk (p2 mk (Nat.le_refl _)).1 (b177_7 ?_)))
  rw [hC.2.2.2.1, hC.2.2.1]
  have end93 : (¬ (x1 = 0 ∨ x1 = 1 ∨ x1 = 2)) → ¬ (4 ≤ x1 ∧ x1 < 4 + dB D) → Go sc d mt_177 93 [vr 42, vi x1, vi (ps mk : Int)] [] (z_cfg t, I, J) Q := by
    intro hn1 hn2
    refine b177_93 ?_
    rw [x_th, hC.2.1]
    refine ⟨hx, fun c => hno (by omega), fun c => ⟨⟨by omega, by omega⟩, fun c2 => ?_, fun c2 => hno (by omega)⟩⟩
    have h := h (by omega)
    rw [if_neg (by omega), if_neg (by omega), if_neg (by omega), if_neg (by omega)] at h
    exact c164 (by omega) (fun d' _ => k164 (s := ps mk) (i := (x1 - 8).toNat) rfl (by omega) s1.1 (by omega) (b177_121 h))
  refine ⟨hx, fun c => ?_, fun c => ⟨fun c2 => ?_, fun c2 => ⟨fun c3 => ⟨lamp_in hD, fun c4 => ?_, fun c4 => ?_⟩, fun c3 => ⟨fun c4 => end93 (by omega) (by omega), fun c4 => ⟨⟨by omega, by omega⟩, fun c5 => ?_, fun c5 => end93 (by omega) (by omega)⟩⟩⟩⟩⟩
  · have h := h (by omega)
    rw [if_pos c] at h
    exact c178 (by omega) (fun d' _ => k178 p0 hmk (p2 mk (Nat.le_refl _)).2 (b177_19 h))
  · have h := h (by omega)
    rw [if_neg c, if_pos c2] at h
    refine c40 (by omega) (fun d' _ => k40 rfl (by omega) hC hD s1.1 (b177_33 ?_))
    cases hg : dGoal D (ps mk) with
    | false => rw [hg] at h; exact ⟨⟨by decide, by decide⟩, fun _ => h, fun z => absurd rfl z⟩
    | true => rw [hg] at h; exact ⟨⟨by decide, by decide⟩, fun z => absurd z (by decide), fun _ => h⟩
  · have h := h (by omega)
    rw [if_neg c, if_neg c2, if_pos c3, if_pos c4] at h
    exact h
  · have h := h (by omega)
    rw [if_neg c, if_neg c2, if_pos c3, if_neg c4] at h
    exact c47 (by omega) (fun d' _ => k47 rfl s1.1 (b177_66 h))
  · have h := h (by omega)
    rw [if_neg c, if_neg c2, if_neg c3, if_pos (by omega)] at h
    exact c45 (by omega) (fun d' _ => k45 (s := ps mk) (b := (x1 - 4).toNat) rfl (by omega) s1.1 (by omega) (b177_92 h))
theorem k280 {x1 : Int} {mk : Nat} {ps pm : Nat → Nat} {lw : Int} (hx : inR x1) (hd : 2 ≤ d) (hV : RV I D ho lo) (hP : PR I mk ps pm lw) (hO : PO D mk ps pm) (hno : ¬ plOk D x1 → Q (.inl (some (vi 0))) (z_cfg t, z_u (z_u I 1835 0 0) 1835 0 1, J)) (h : plOk D x1 → Q (.inl (some (vi (plA D (ps mk) (pm mk) x1)))) (z_cfg t, z_u I 1835 0 0, J)) : Go sc d mt_280 0 [vr 1835, vi x1, vn, vn] [] (z_cfg t, I, J) Q := by
  obtain ⟨p0, p1, p2⟩ := hP
  have hD := hV.2.2
  have hmk := hO.1
  obtain ⟨s1, s2, -⟩ := hO.2.2.2 mk (Nat.le_refl _)
  obtain ⟨⟨r, hr1, hr2⟩, hpm⟩ := p2 mk (Nat.le_refl _)
  have hB := hD.2.2.1
  have hT := hD.2.1
  have V1 := hV.f0 (v := 0)
  have e : ∀ k, ¬ k = 0 → z_u I 1835 0 0 1835 k = I 1835 k := fun k hk => zu_nk hk
  have e3 : z_u I 1835 0 0 1835 3 = dB D := V1.1.2.2.1
  have e2 : z_u I 1835 0 0 1835 2 = dT D := V1.1.2.1
  have e5 : z_u I 1835 0 0 1835 5 = dLamp D := V1.1.2.2.2.2.1
  have bad : ¬ plOk D x1 → Go sc d mt_280 50 [vr 1835, vi x1, vn, vn] [] (z_cfg t, z_u I 1835 0 0, J) Q := fun hb => b280_50 (b280_51 (c189 (by omega) (fun d' _ => k189n rfl (zu_same _ _ _ _) (b280_58 ⟨⟨by decide, by decide⟩, fun _ => hno hb, fun z => absurd rfl z⟩))))
  have good : plOk D x1 → Go sc d mt_280 46 [vr 1835, vi x1, vn, vn] [] (z_cfg t, z_u I 1835 0 0, J) Q := by
    intro hok
    have h := h hok
    unfold plA at h
    unfold plOk at hok
    refine b280_46 (b280_51 (c189 (by omega) (fun d' _ => k189y rfl (zu_same _ _ _ _) (b280_58 ?_))))
    rw [e 84 (by decide), p0, Int.toNat_natCast, zu_ne (by decide : ¬ 3348 = 1835), zu_ne (by decide : ¬ 3316 = 1835), hr1, hpm, e5]
    refine ⟨⟨by decide, by decide⟩, fun z => absurd z (by decide), fun _ => ⟨⟨by omega, by omega⟩, hx, fun c => ?_, fun c => ⟨fun c2 => ?_, fun c2 => ⟨fun c3 => ⟨lamp_in hD, fun c4 => ?_, fun c4 => ?_⟩, fun c3 => ⟨fun c4 => ?_, fun c4 => ?_⟩⟩⟩⟩⟩
    · rw [if_pos c] at h; exact h
    · rw [if_neg c, if_pos c2] at h
      refine c251 (by omega) (fun d' _ => k251 rfl (by omega) V1.1 hD hr2 s1 (b280_97 ?_))
      cases hg : dGoal D (ps mk) with
      | false => rw [hg] at h; exact ⟨⟨by decide, by decide⟩, fun _ => h, fun z => absurd rfl z⟩
      | true => rw [hg] at h; exact ⟨⟨by decide, by decide⟩, fun z => absurd z (by decide), fun _ => h⟩
    · rw [if_neg c, if_neg c2, if_pos c3, if_pos c4] at h; exact h
    · rw [if_neg c, if_neg c2, if_pos c3, if_neg c4] at h
      have hlamp : zand (zshr (r : Int) 20) 3 = ((llamp (ps mk) : Nat) : Int) := by
        rw [show (20 : Int) = ((2 * 10 : Nat) : Int) from rfl, zdg hr2.1 (by omega), hr2.2.2 10 (by omega) (by omega)]
        rfl
      rw [hlamp]
      exact h
    · rw [if_neg c, if_neg c2, if_neg c3, if_pos c4] at h
      refine c244 (by omega) (fun d' _ => k244 (r := r) (b := (x1 - 4).toNat) rfl (by omega) hr2.1 (by omega) (b280_143 ?_))
      have hdg : dg r (8 + (x1 - 4).toNat) = lberth (ps mk) (x1 - 4).toNat := by
        rw [hr2.2.2 (8 + (x1 - 4).toNat) (by omega) (by omega)]
        unfold dg lberth
        rw [show 2 * (8 + (x1 - 4).toNat) = 16 + 2 * (x1 - 4).toNat by omega]
      rw [hdg]
      exact h
    · rw [if_neg c, if_neg c2, if_neg c3, if_neg c4] at h
      rw [show 2 * (x1 - 8) = ((2 * (x1 - 8).toNat : Nat) : Int) by omega, zdg hr2.1 (by omega), hr2.2.1 (x1 - 8).toNat (by omega)]
      exact h
  refine b280_0 (c281 (by omega) (fun d' _ => b281_0 ⟨hx, ⟨by decide, by decide⟩, fun c => b280_11 ?_, fun c => ⟨⟨by decide, by decide⟩, fun c2 => b280_11 ?_, fun c2 => b280_11 ⟨⟨by decide, by decide⟩, fun z => absurd z (by decide), fun _ => good (Or.inl (by omega))⟩⟩⟩))
  all_goals
    rw [e3]
    have end29 : ¬ (0 ≤ x1 ∧ x1 ≤ 2) → ¬ (4 ≤ x1 ∧ x1 < 4 + dB D) → Go sc d mt_280 29 [vr 1835, vi x1, vn, vn] [] (z_cfg t, z_u I 1835 0 0, J) Q := by
      intro hn1 hn2
      refine b280_29 ?_
      rw [e2]
      exact ⟨hx, fun c => bad (fun z => by unfold plOk at z; omega), fun c => ⟨⟨by omega, by omega⟩, fun c2 => good (Or.inr (Or.inr (by omega))), fun c2 => bad (fun z => by unfold plOk at z; omega)⟩⟩
    exact ⟨⟨by decide, by decide⟩, fun _ => ⟨hx, fun c3 => end29 (by omega) (by omega), fun c3 => ⟨⟨by omega, by omega⟩, fun c4 => good (Or.inr (Or.inl (by omega))), fun c4 => end29 (by omega) (by omega)⟩⟩, fun z => absurd rfl z⟩
end
