/-! ===== a throw: one cell more ===== -/
def t_th (t : zT) : zT := (t_s t + 6, t_e t, t_l t ++ [(31, 0, [])], t_b t, t_rb t, t_gb t, t_ob t, t_pb t, t_eb t)
theorem tab_th (t : zT) : z_tab (t_th t) = z_tab t := by
  obtain ⟨ts, te, tt, b1, b2, b3, b4, b5, b6⟩ := t
  rfl
def aTh (t : zT) : Nat := 32 * ((z_tab t ++ t_l t).length + 1) + 31
theorem aTh_ge (t : zT) : 3392 ≤ aTh t := by
  unfold aTh
  rw [List.length_append, tab_len]
  omega
theorem x_th (t : zT) (I J : Nat → Nat → Int) : z_x (x_mk (z_tab t ++ t_l t, t_s t, I, J) 31 0 6 0) = (z_cfg (t_th t), z_zr I (aTh t), z_zr J (aTh t)) := by
  show (z_cfgL (z_nl (z_tab t ++ t_l t) 31 0 0) (t_s t + 6), _, _) = (z_cfgL (z_tab (t_th t) ++ t_l (t_th t)) (t_s (t_th t)), _, _)
  have e : z_nl (z_tab t ++ t_l t) 31 0 0 = z_tab (t_th t) ++ t_l (t_th t) := by
    unfold z_nl
    rw [tab_th, List.append_assoc]
    rfl
  rw [e]
  rfl
theorem fN_app {l m : zL} {a n : Nat} (h : z_fN l a = some n) : z_fN (l ++ m) a = some n := by
  unfold z_fN at h ⊢
  cases hq : l[a / 32 - 1]? with
  | none => rw [hq] at h; cases h
  | some q =>
    rw [hq] at h
    rw [List.getElem?_append_left (by
      rcases Nat.lt_or_ge (a / 32 - 1) l.length with z | z
      · exact z
      · rw [List.getElem?_eq_none z] at hq; cases hq), hq]
    exact h
theorem eOk_th {t : zT} (h : eOk t) : eOk (t_th t) ∧ eL (t_th t) = eL t ∧ rS (t_th t) = rS t + 6 ∧ rC (t_th t) = rC t + 1 := by
  obtain ⟨h1, h2, h3, h4⟩ := h
  have e : z_fN (z_tab (t_th t) ++ t_l (t_th t)) (t_e (t_th t)) = some (eL t) := by
    rw [tab_th]
    show z_fN (z_tab t ++ (t_l t ++ [(31, 0, [])])) (t_e t) = _
    rw [← List.append_assoc]
    exact fN_app h2
  have eL' : eL (t_th t) = eL t := by
    show (z_fN (z_tab (t_th t) ++ t_l (t_th t)) (t_e (t_th t))).getD 0 = _
    rw [e]
    rfl
  refine ⟨⟨by rw [eL']; exact h1, by rw [eL']; exact e, h3, h4⟩, eL', ?_, ?_⟩
  · unfold rS
    rw [eL']
    show t_s t + 6 + _ = _
    omega
  · unfold rC
    rw [eL']
    show (t_l t ++ [(31, 0, [])]).length + _ = _
    rw [List.length_append]
    show (t_l t).length + 1 + _ = _
    omega
/-- a throw leaves the class's and the reference's cells alone -/
theorem zr_lo {t : zT} {I : Nat → Nat → Int} {a : Nat} (h : a < 3392) : z_zr I (aTh t) a = I a := zzr_ne (by have := aTh_ge t; omega)
section
variable {sc : mS} {d : Nat} {t : zT} {I J : Nat → Nat → Int} {Q : zR → zW → Prop} {D : tD}
theorem GB.th {act : Nat} {g : gS} (h : GB t I D act g) : GB (t_th t) (z_zr I (aTh t)) D act g := by
  obtain ⟨h1, h2, h3, h4, h5, h6⟩ := h
  obtain ⟨e1, e2, -, -⟩ := eOk_th h1
  have hf : ∀ a, a < 3392 ∨ a = t_e t → z_zr I (aTh t) a = I a := fun a ha => by
    rcases ha with z | z
    · exact zr_lo z
    · refine zzr_ne (fun q => ?_)
      have := h1.2.2.1
      rw [← z, q] at this
      unfold aTh at this
      omega
  refine ⟨e1, h2.fr (hf _ (Or.inl (by have := zmd_lt (t_gb t); omega))) (fun k => hf _ (Or.inl (by have := zmf_lt (t_gb t) k; omega))), h3, ?_, h5, fun z i hi => by rw [hf 1172 (by omega)]; exact h6 z i hi⟩
  have h4' := h4.up (I' := z_zr I (aTh t)) (fun a ha => hf a (by omega)) (fun k _ => by rw [hf 1057 (by omega)])
  rcases h4' with z | ⟨a1, a2, a3, a4, a5, a6⟩
  · exact Or.inl z
  · exact Or.inr ⟨a1, a2, a3, a4, a5, by rw [e2]; exact a6⟩
theorem TX.th (h : TX t I D) : TX (t_th t) (z_zr I (aTh t)) D := by
  refine ⟨(eOk_th h.1).1, h.2.1, h.2.2.1.up rfl (fun a ha => zr_lo (by omega)), fun b i hi => ?_⟩
  rw [zr_lo (by have := zmf_lt b 6; omega), zr_lo (by have := zmf_lt b 7; omega)]
  exact h.2.2.2 b i hi
theorem GP.th {n : Nat} (h : GP t I D n) : GP (t_th t) (z_zr I (aTh t)) D n := by
  obtain ⟨p1, p2, p3, p4, p5⟩ := h
  unfold GP
  rw [zr_lo (by decide : 1057 < 3392), zr_lo (by decide : 1283 < 3392)]
  refine ⟨p1, p2, p3, p4, ?_⟩
  rcases p5 with z | ⟨z, hbd, hgb, hG, hmz⟩
  · exact Or.inl z
  · exact Or.inr ⟨z, hbd, hgb, hG.th, fun a b s tm c1 c2 => (hmz a b s tm c1 c2).to (by rw [zr_lo (by decide : 1283 < 3392)]) (zr_lo (by decide)) (zr_lo (by decide))⟩
/-- what the needs ask -/
theorem k148 {x1 x2 : Int} (h1 : inR x1) (h2 : inR x2) (hno : ¬ (0 ≤ x1 ∧ x1 ≤ x2) → Q (.inr 0) (z_cfg (t_th t), z_zr I (aTh t), z_zr J (aTh t))) (h : (0 ≤ x1 ∧ x1 ≤ x2) → Q (.inl none) (z_cfg t, I, J)) : Go sc d mt_148 0 [vr 42, vi x1, vi x2] [] (z_cfg t, I, J) Q := by
  refine b148_0 ?_
  rw [x_th]
  exact ⟨h1, fun c => hno (by omega), fun c => ⟨h2, fun c2 => hno (by omega), fun c2 => h (by omega)⟩⟩
theorem k136 {x1 : Int} (h1 : inR x1) (hC : CD (t_b t) I D) (hD : dOk D) (hno : ¬ (0 ≤ x1 ∧ x1 < dT D) → Q (.inr 0) (z_cfg (t_th t), z_zr I (aTh t), z_zr J (aTh t))) (h : (0 ≤ x1 ∧ x1 < dT D) → Q (.inl none) (z_cfg t, I, J)) : Go sc d mt_136 0 [vr 42, vi x1] [] (z_cfg t, I, J) Q := by
  have e1 : I (z_md (t_b t)) 1 = dT D := hC.2.1
  have h8 := hD.2.1
  refine b136_0 ?_
  rw [x_th, e1]
  exact ⟨h1, fun c => hno (by omega), fun c => ⟨⟨by omega, by omega⟩, fun c2 => ⟨fun _ => h (by omega), fun z => by omega⟩, fun c2 => hno (by omega)⟩⟩
theorem k143 {x1 x2 : Int} (h1 : inR x1) (h2 : inR x2) (hC : CD (t_b t) I D) (hD : dOk D) (hno : ¬ ((0 ≤ x1 ∧ x1 ≤ dS D) ∧ (0 ≤ x2 ∧ x2 ≤ 2)) → Q (.inr 0) (z_cfg (t_th t), z_zr I (aTh t), z_zr J (aTh t))) (h : ((0 ≤ x1 ∧ x1 ≤ dS D) ∧ (0 ≤ x2 ∧ x2 ≤ 2)) → Q (.inl none) (z_cfg t, I, J)) : Go sc d mt_143 0 [vr 42, vi x1, vi x2] [] (z_cfg t, I, J) Q := by
  have e1 : I (z_md (t_b t)) 0 = dS D := hC.1
  have h8 := hD.1
  refine b143_0 ?_
  rw [x_th, e1]
  exact ⟨h1, fun c => hno (by omega), fun c => ⟨⟨by omega, by omega⟩, fun c2 => hno (by omega), fun c2 => ⟨h2, fun c3 => hno (by omega), fun c3 => ⟨fun c4 => hno (by omega), fun c4 => h (by omega)⟩⟩⟩⟩
end
