/-! ===== the class: addEdge whole ===== -/
section
variable {sc : mS} {d : Nat} {t : zT} {I J : Nat → Nat → Int} {Q : zR → zW → Prop} {D : tD}
theorem k38full {x1 x2 : Int} (hn : I 1057 3 = 2000) (h : Q (.inl none) (z_cfg t, z_u I 1057 2 1, J)) : Go sc d mt_38 0 [vr 1057, vi x1, vi x2, vn] [] (z_cfg t, I, J) Q := by
  refine b38_0 ?_
  rw [hn]
  exact ⟨⟨by decide, by decide⟩, fun c => absurd c (by decide), fun _ => h⟩
theorem GC_sp {t : zT} {I : Nat → Nat → Int} {g : gS} (h : I 1057 2 = 1) (h1 : 0 ≤ I 1057 3 ∧ I 1057 3 ≤ 2000) (h2 : ∀ i, i < gN g → I 1108 i = gX g i) : GC t I D (g_sp g) := Or.inl ⟨rfl, h, h1, h2⟩
/-- behind the search: the crossing to state j, of a memory that holds the states of g1 -/
theorem k51tail {b p S j : Nat} {g1 : gS} {x1 x5 : Int} (hE : eOk t) (hb : b < 2) (hp : p < 4) (hS : S < 256) (hj : j < 2000) (hG : GI t I D g1) (hsp : gSp g1 = false) (hm : gM g1 ≤ 40000)
    (h : ∀ (t' : zT) (I' J' : Nat → Nat → Int), tR t t' → FE I I' J J' → GC t' I' D (if gM g1 = 40000 then g_sp g1 else g_e g1 (b, p, S, j)) → Q (.inl none) (z_cfg t', I', J')) :
    Go sc d mt_51 44 [vr 1057, vi x1, vi (b : Int), vi (p : Int), vi (S : Int), vi x5, vi (j : Int), vn] [] (z_cfg t, I, J) Q := by
  obtain ⟨q1, q2, q3, q4, q5⟩ := hG
  refine b51_44 ?_
  rw [q2]
  refine ⟨⟨by omega, by omega⟩, fun c => ?_, fun c => ?_⟩
  · rw [if_neg (by omega)] at h
    refine b51_58 ?_
    rw [q1, q2]
    refine ⟨⟨by decide, by decide⟩, fun _ => ?_, fun c2 => absurd rfl c2⟩
    refine k51row (E := gE g1) hE hb hp hS (by omega) q2 (by omega) q5 q4 (fun t' I' J' r1 r2 r3 r4 r5 r6 r7 => ?_)
    refine h t' I' J' r1 ⟨fun a h1 h2 h3 h4 h5 h6 => r2 a h1 h2 h6, fun k hk => r3 k (by omega), r4⟩ (Or.inr ⟨hsp, ?_, r5, ⟨?_, ?_, fun k hk => ?_, ?_⟩, r6, r7⟩)
    · rw [r3 2 (by decide)]; exact q1
    · rw [r3 3 (by decide)]; exact q3.1
    · obtain ⟨T, w1, w2, w3, w4⟩ := q3.2.1
      refine ⟨T, w1, fun k hk => ?_, fun i hi => ?_, w4⟩
      · rw [r2 1108 (by decide) (by decide) (by decide)]; exact w2 k hk
      · rw [r2 1236 (by decide) (by decide) (by decide)]; exact w3 i hi
    · rw [r2 1140 (by decide) (by decide) (by decide)]; exact q3.2.2.1 k hk
    · rw [r3 5 (by decide)]; exact q3.2.2.2
  · rw [if_pos (by omega)] at h
    refine b51_58 ?_
    rw [zu_same]
    refine ⟨⟨by decide, by decide⟩, fun c2 => absurd c2 (by decide), fun _ => ?_⟩
    exact h t _ J (tR.rf hE) ⟨fun a h1 h2 h3 h4 h5 h6 => zu_ne h2, fun k hk => zu_nk (by omega), fun _ _ => rfl⟩ (GC_sp (zu_same _ _ _ _) (by
      obtain ⟨T, w⟩ := q3.2.1
      rw [zu_nk (by decide), q3.1]
      have := w.1
      omega) (fun i hi => by
      obtain ⟨T, w⟩ := q3.2.1
      rw [zu_ne (by decide : ¬ 1108 = 1057)]
      exact (w.2.1 i hi).1))
theorem k51 {x1 x2 x3 x4 : Int} {g : gS} {k b p S act ho lo : Nat} (e1 : x1 = gX g k) (e2 : x2 = b) (e3 : x3 = p) (e4 : x4 = S) (hd : 4 ≤ d) (hCD : CD (t_gb t) I D) (hD : dOk D) (hg : gOk D act g) (hsp : gSp g = false) (hG : GI t I D g) (hE : eOk t) (hk : k < gN g) (hx : I 1057 9 = ((gDp g k + 1 : Nat) : Int)) (hb : b < dB D) (hp : p < dS D) (hS : S ≤ dAll D) (he : okE D act ho lo (gX g k) b p S = true)
    (h : ∀ (t' : zT) (I' J' : Nat → Nat → Int), tR t t' → FE I I' J J' → GC t' I' D (addE D g k b p S) → Q (.inl none) (z_cfg t', I', J')) :
    Go sc d mt_51 0 [vr 1057, vi x1, vi x2, vi x3, vi x4, vn, vn, vn] [] (z_cfg t, I, J) Q := by
  subst e1 e2 e3 e4
  have hB := hD.2.2.1
  have hS4 := hD.1
  have hA := dAll_lt hD
  obtain ⟨g1, g2, g3, g4, g5, g6⟩ := hg
  have hst := (g3 k hk).1
  have hs' := (stOk_af hD hst hb hp hS).1
  obtain ⟨q1, q2, q3, q4, q5⟩ := hG
  obtain ⟨T, hCS⟩ := q3.2.1
  refine b51_0 (c52 (by omega) (fun d' _ => k52 rfl rfl rfl rfl (by omega) hCD hD hst.1 (by omega) (by omega) (by omega) ?_))
  refine b51_12 (c53 (by omega) (fun d' _ => k53 rfl (by omega) hCS g5 hs' ?_))
  unfold addE at h
  rw [if_neg (by rw [hsp]; decide)] at h
  unfold fI
  cases hf : fnd (gX g) (gN g) (dAfter D (gX g k) b p S) with
  | some j =>
    rw [hf] at h
    dsimp only at h ⊢
    have hj := (fnd_some hf).1
    refine b51_20 ⟨⟨by omega, by omega⟩, fun c => by omega, fun _ => ?_⟩
    exact k51tail hE (by omega) (by omega) (by omega) (by omega) ⟨q1, q2, q3, q4, q5⟩ hsp g2 h
  | none =>
    rw [hf] at h
    dsimp only at h ⊢
    have hno := fnd_none hf
    have hdp := (g3 k hk).2
    refine b51_20 ⟨⟨by decide, by decide⟩, fun _ => ?_, fun c => absurd rfl c⟩
    rw [hx, q3.1]
    by_cases hn : gN g = 2000
    · rw [if_pos (Or.inl hn)] at h
      refine c38 (by omega) (fun d' _ => k38full (by rw [q3.1, hn]; rfl) ?_)
      refine b51_44 ?_
      have r : ∀ kk, ¬ kk = 2 → z_u I 1057 2 1 1057 kk = I 1057 kk := fun kk hkk => zu_nk hkk
      have key : ∀ I2 : Nat → Nat → Int, I2 1057 2 = 1 → (∀ a, ¬ a = 1057 → I2 a = I a) → (∀ kk, ¬ kk = 2 → I2 1057 kk = I 1057 kk) → Go sc d mt_51 58 [vr 1057, vi ((gX g k : Nat) : Int), vi (b : Int), vi (p : Int), vi (S : Int), vi ((dAfter D (gX g k) b p S : Nat) : Int), vi ((gN g : Nat) : Int), vn] [] (z_cfg t, I2, J) Q := by
        intro I2 a1 a2 a3
        refine b51_58 ?_
        rw [a1]
        refine ⟨⟨by decide, by decide⟩, fun c2 => absurd c2 (by decide), fun _ => ?_⟩
        exact h t I2 J (tR.rf hE) ⟨fun a h1 h2 h3 h4 h5 h6 => a2 a h2, fun kk hkk => a3 kk (by omega), fun _ _ => rfl⟩ (GC_sp a1 (by rw [a3 3 (by decide), q3.1]; omega) (fun i hi => by rw [a2 1108 (by decide)]; exact (hCS.2.1 i hi).1))
      rw [r 4 (by decide), q2]
      refine ⟨⟨by omega, by omega⟩, fun _ => key _ (zu_same _ _ _ _) (fun a ha => zu_ne ha) r, fun _ => key _ (zu_same _ _ _ _) (fun a ha => ?_) (fun kk hkk => ?_)⟩
      · rw [zu_ne ha, zu_ne ha]
      · rw [zu_nk hkk, r kk hkk]
    · refine c38 (by omega) (fun d' _ => k38 (dp := gDp g k + 1) rfl (by omega) (by omega) hCD hD q3 (by omega) hs' (by omega) hno (fun I1 f1 f2 f3 => ?_))
      have het := hE
      obtain ⟨-, -, -, hte⟩ := het
      have hG1 : GI t I1 D (g_x g (dAfter D (gX g k) b p S) (gDp g k + 1)) := by
        refine ⟨?_, ?_, f3, fun e he2 => ?_, q5⟩
        · rw [f2 2 (by decide) (by decide)]; exact q1
        · rw [f2 4 (by decide) (by decide)]; exact q2
        · rw [f1 (t_e t) (by omega) (by omega) (by omega) (by omega)]
          exact q4 e he2
      refine k51tail hE (by omega) (by omega) (by omega) (by omega) hG1 hsp g2 (fun t' I' J' r1 r2 r3 => ?_)
      refine h t' I' J' r1 ⟨fun a h1 h2 h3 h4 h5 h6 => ?_, fun kk hkk => ?_, r2.2.2⟩ ?_
      · rw [r2.1 a h1 h2 h3 h4 h5 h6, f1 a h2 h3 h4 h5]
      · rw [r2.2.1 kk hkk, f2 kk (by omega) (by omega)]
      · by_cases hm : gM g = 40000
        · rw [if_pos (Or.inr hm)]
          have r3' : GC t' I' D (if gM g = 40000 then g_sp (g_x g (dAfter D (gX g k) b p S) (gDp g k + 1)) else g_e (g_x g (dAfter D (gX g k) b p S) (gDp g k + 1)) (b, p, S, gN g)) := r3
          rw [if_pos hm] at r3'
          rcases r3' with ⟨-, z, z4, z2⟩ | ⟨z, -⟩
          · refine GC_sp z z4 (fun i hi => ?_)
            have z3 : I' 1108 i = ((upN (gX g) (gN g) (dAfter D (gX g k) b p S) i : Nat) : Int) := z2 i (by show i < gN g + 1; omega)
            rw [upN_ne (by omega)] at z3
            exact z3
          · cases z
        · rw [if_neg (by omega)]
          have r3' : GC t' I' D (if gM g = 40000 then g_sp (g_x g (dAfter D (gX g k) b p S) (gDp g k + 1)) else g_e (g_x g (dAfter D (gX g k) b p S) (gDp g k + 1)) (b, p, S, gN g)) := r3
          rw [if_neg hm] at r3'
          exact r3'
end
