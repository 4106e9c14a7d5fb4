section
variable {sc : mS} {d : Nat} {t : zT} {I J : Nat → Nat → Int} {Q : zR → zW → Prop}
/-! FerryHall$Reader read (ILFerryHall$Model;)I -/
set_option maxRecDepth 8000 in
theorem b97_0 {bn : Bool} {x1 : Int} (h : (inR x1 ∧ inR 700) ∧ Cl sc d 10 [vr (z_md bn)] (z_cfg (t_seb t bn), z_u (z_u (z_u (z_u I 805 2 (if 700 < x1 then 700 else x1)) 805 3 0) 805 7 0) 805 8 (-1), J) (z_k sc d mt_97 false 37 [vr 805, vi x1, vr (z_md bn), vn] [] Q)) : Go sc d mt_97 0 [vr 805, vi x1, vr (z_md bn), vn] [] (z_cfg t, I, J) Q := by
  obtain ⟨ts, te, tt, b1, b2, b3, b4, b5, b6⟩ := t
  cases b6 <;> cases bn
  · exact z_sound (f := false) (cuts := [50, 81]) 300 0 [vr 805, vi x1, vr (z_md false), vn] [] (z_tab (ts, te, tt, b1, b2, b3, b4, b5, false) ++ t_l (ts, te, tt, b1, b2, b3, b4, b5, false), t_s (ts, te, tt, b1, b2, b3, b4, b5, false), I, J) h
  · exact z_sound (f := false) (cuts := [50, 81]) 300 0 [vr 805, vi x1, vr (z_md true), vn] [] (z_tab (ts, te, tt, b1, b2, b3, b4, b5, false) ++ t_l (ts, te, tt, b1, b2, b3, b4, b5, false), t_s (ts, te, tt, b1, b2, b3, b4, b5, false), I, J) h
  · exact z_sound (f := false) (cuts := [50, 81]) 300 0 [vr 805, vi x1, vr (z_md false), vn] [] (z_tab (ts, te, tt, b1, b2, b3, b4, b5, true) ++ t_l (ts, te, tt, b1, b2, b3, b4, b5, true), t_s (ts, te, tt, b1, b2, b3, b4, b5, true), I, J) h
  · exact z_sound (f := false) (cuts := [50, 81]) 300 0 [vr 805, vi x1, vr (z_md true), vn] [] (z_tab (ts, te, tt, b1, b2, b3, b4, b5, true) ++ t_l (ts, te, tt, b1, b2, b3, b4, b5, true), t_s (ts, te, tt, b1, b2, b3, b4, b5, true), I, J) h
set_option maxRecDepth 8000 in
theorem b97_40 {bn : Bool} {x1 : Int} (h : Cl sc d 98 [vr 805] (z_cfg t, I, J) (z_k sc d mt_97 false 41 [vr 805, vi x1, vr (z_md bn), vn] [] Q)) : Go sc d mt_97 40 [vr 805, vi x1, vr (z_md bn), vn] [] (z_cfg t, I, J) Q := by
  obtain ⟨ts, te, tt, b1, b2, b3, b4, b5, b6⟩ := t
  · exact z_sound (f := false) (cuts := [50, 81]) 300 40 [vr 805, vi x1, vr (z_md bn), vn] [] (z_tab (ts, te, tt, b1, b2, b3, b4, b5, b6) ++ t_l (ts, te, tt, b1, b2, b3, b4, b5, b6), t_s (ts, te, tt, b1, b2, b3, b4, b5, b6), I, J) h
set_option maxRecDepth 8000 in
theorem b97_44 {bn : Bool} {x1 : Int} (h : Cl sc d 102 [vr 805] (z_cfg t, I, J) (z_k sc d mt_97 false 45 [vr 805, vi x1, vr (z_md bn), vn] [] Q)) : Go sc d mt_97 44 [vr 805, vi x1, vr (z_md bn), vn] [] (z_cfg t, I, J) Q := by
  obtain ⟨ts, te, tt, b1, b2, b3, b4, b5, b6⟩ := t
  · exact z_sound (f := false) (cuts := [50, 81]) 300 44 [vr 805, vi x1, vr (z_md bn), vn] [] (z_tab (ts, te, tt, b1, b2, b3, b4, b5, b6) ++ t_l (ts, te, tt, b1, b2, b3, b4, b5, b6), t_s (ts, te, tt, b1, b2, b3, b4, b5, b6), I, J) h
set_option maxRecDepth 8000 in
theorem b97_48 {bn : Bool} {x1 : Int} (h : Go sc d mt_97 50 [vr 805, vi x1, vr (z_md bn), vi 0] [] (z_cfg t, I, J) Q) : Go sc d mt_97 48 [vr 805, vi x1, vr (z_md bn), vn] [] (z_cfg t, I, J) Q := by
  obtain ⟨ts, te, tt, b1, b2, b3, b4, b5, b6⟩ := t
  · exact z_sound (f := false) (cuts := [50, 81]) 300 48 [vr 805, vi x1, vr (z_md bn), vn] [] (z_tab (ts, te, tt, b1, b2, b3, b4, b5, b6) ++ t_l (ts, te, tt, b1, b2, b3, b4, b5, b6), t_s (ts, te, tt, b1, b2, b3, b4, b5, b6), I, J) h
set_option maxRecDepth 8000 in
theorem b97_50 {bn : Bool} {x1 x3 : Int} (h : (inR x3) ∧ ((x3 < (700 : Int) → (inR (I 805 7)) ∧ ((I 805 7 = 0 → (inR (I 805 4)) ∧ ((I 805 4 = 0 → Go sc d mt_97 81 [vr 805, vi x1, vr (z_md bn), vi x3] [] (z_cfg t, I, J) Q) ∧ (¬ I 805 4 = 0 → Cl sc d 109 [vr 805] (z_cfg t, I, J) (z_k sc d mt_97 false 72 [vr 805, vi x1, vr (z_md bn), vi x3] [] Q)))) ∧ (¬ I 805 7 = 0 → Go sc d mt_97 81 [vr 805, vi x1, vr (z_md bn), vi x3] [] (z_cfg t, I, J) Q))) ∧ (¬ x3 < (700 : Int) → Go sc d mt_97 81 [vr 805, vi x1, vr (z_md bn), vi x3] [] (z_cfg t, I, J) Q))) : Go sc d mt_97 50 [vr 805, vi x1, vr (z_md bn), vi x3] [] (z_cfg t, I, J) Q := by
  obtain ⟨ts, te, tt, b1, b2, b3, b4, b5, b6⟩ := t
  · exact z_sound (f := false) (cuts := [50, 81]) 300 50 [vr 805, vi x1, vr (z_md bn), vi x3] [] (z_tab (ts, te, tt, b1, b2, b3, b4, b5, b6) ++ t_l (ts, te, tt, b1, b2, b3, b4, b5, b6), t_s (ts, te, tt, b1, b2, b3, b4, b5, b6), I, J) (show (inR x3) ∧ (inR 700) ∧ ((x3 < (700 : Int) → (inR (I 805 7)) ∧ ((I 805 7 = 0 → (inR (I 805 4)) ∧ ((I 805 4 = 0 → Go sc d mt_97 81 [vr 805, vi x1, vr (z_md bn), vi x3] [] (z_cfg (ts, te, tt, b1, b2, b3, b4, b5, b6), I, J) Q) ∧ (¬ I 805 4 = 0 → Cl sc d 109 [vr 805] (z_cfg (ts, te, tt, b1, b2, b3, b4, b5, b6), I, J) (z_k sc d mt_97 false 72 [vr 805, vi x1, vr (z_md bn), vi x3] [] Q)))) ∧ (¬ I 805 7 = 0 → Go sc d mt_97 81 [vr 805, vi x1, vr (z_md bn), vi x3] [] (z_cfg (ts, te, tt, b1, b2, b3, b4, b5, b6), I, J) Q))) ∧ (¬ x3 < (700 : Int) → Go sc d mt_97 81 [vr 805, vi x1, vr (z_md bn), vi x3] [] (z_cfg (ts, te, tt, b1, b2, b3, b4, b5, b6), I, J) Q)) from ⟨h.1, ⟨⟨by decide, by decide⟩, ⟨fun c0 => ⟨(h.2.1 c0).1, ⟨fun c1 => ⟨((h.2.1 c0).2.1 c1).1, ⟨fun c2 => (((h.2.1 c0).2.1 c1).2.1 c2), fun c2 => (((h.2.1 c0).2.1 c1).2.2 c2)⟩⟩, fun c1 => ((h.2.1 c0).2.2 c1)⟩⟩, fun c0 => (h.2.2 c0)⟩⟩⟩)
set_option maxRecDepth 8000 in
theorem b97_75 {bn : Bool} {x1 x3 : Int} (h : Go sc d mt_97 50 [vr 805, vi x1, vr (z_md bn), vi (x3 + 1)] [] (z_cfg t, I, J) Q) : Go sc d mt_97 75 [vr 805, vi x1, vr (z_md bn), vi x3] [] (z_cfg t, I, J) Q := by
  obtain ⟨ts, te, tt, b1, b2, b3, b4, b5, b6⟩ := t
  · exact z_sound (f := false) (cuts := [50, 81]) 300 75 [vr 805, vi x1, vr (z_md bn), vi x3] [] (z_tab (ts, te, tt, b1, b2, b3, b4, b5, b6) ++ t_l (ts, te, tt, b1, b2, b3, b4, b5, b6), t_s (ts, te, tt, b1, b2, b3, b4, b5, b6), I, J) h
set_option maxRecDepth 8000 in
theorem b97_81 {bn : Bool} {x1 x3 : Int} (h : (inR (I (z_md (t_eb t)) 10)) ∧ ((I (z_md (t_eb t)) 10 = 0 → Cl sc d 12 [vr (z_md (t_eb t))] (z_cfg t, I, J) (z_k sc d mt_97 false 95 [vr 805, vi x1, vr (z_md bn), vi x3] [] Q)) ∧ (¬ I (z_md (t_eb t)) 10 = 0 → Q (.inl (some (vi (I 805 7)))) (z_cfg t, I, J)))) : Go sc d mt_97 81 [vr 805, vi x1, vr (z_md bn), vi x3] [] (z_cfg t, I, J) Q := by
  obtain ⟨ts, te, tt, b1, b2, b3, b4, b5, b6⟩ := t
  cases b6
  · exact z_sound (f := false) (cuts := [50, 81]) 300 81 [vr 805, vi x1, vr (z_md bn), vi x3] [] (z_tab (ts, te, tt, b1, b2, b3, b4, b5, false) ++ t_l (ts, te, tt, b1, b2, b3, b4, b5, false), t_s (ts, te, tt, b1, b2, b3, b4, b5, false), I, J) h
  · exact z_sound (f := false) (cuts := [50, 81]) 300 81 [vr 805, vi x1, vr (z_md bn), vi x3] [] (z_tab (ts, te, tt, b1, b2, b3, b4, b5, true) ++ t_l (ts, te, tt, b1, b2, b3, b4, b5, true), t_s (ts, te, tt, b1, b2, b3, b4, b5, true), I, J) h
set_option maxRecDepth 8000 in
theorem b97_98 {bn : Bool} {x1 x3 : Int} (h : Q (.inl (some (vi (I 805 7)))) (z_cfg t, I, J)) : Go sc d mt_97 98 [vr 805, vi x1, vr (z_md bn), vi x3] [] (z_cfg t, I, J) Q := by
  obtain ⟨ts, te, tt, b1, b2, b3, b4, b5, b6⟩ := t
  · exact z_sound (f := false) (cuts := [50, 81]) 300 98 [vr 805, vi x1, vr (z_md bn), vi x3] [] (z_tab (ts, te, tt, b1, b2, b3, b4, b5, b6) ++ t_l (ts, te, tt, b1, b2, b3, b4, b5, b6), t_s (ts, te, tt, b1, b2, b3, b4, b5, b6), I, J) h
theorem c97 {bn : Bool} {x1 : Int} {w : zW} {K : zR → zW → Prop} (hd : 1 ≤ d) (h : ∀ d', d = d' + 1 → Go sc d' mt_97 0 [vr 805, vi x1, vr (z_md bn), vn] [] w K) : Cl sc d 97 [vr 805, vi x1, vr (z_md bn)] w K := Cl_of rfl hd h
/-! FerryHall$Reader advance ()V -/
set_option maxRecDepth 8000 in
theorem b98_0 (h : (inR (I 805 3)) ∧ ((inR (I 805 2)) ∧ ((I 805 3 < I 805 2 → (0 ≤ I 805 3 ∧ I 805 3 < 700) ∧ ((inR (I 85 (I 805 3).toNat)) ∧ ((I 85 (I 805 3).toNat = (32 : Int) → Go sc d mt_98 39 [vr 805] [] (z_cfg t, I, J) Q) ∧ (¬ I 85 (I 805 3).toNat = (32 : Int) → (I 85 (I 805 3).toNat = (10 : Int) → Go sc d mt_98 39 [vr 805] [] (z_cfg t, I, J) Q) ∧ (¬ I 85 (I 805 3).toNat = (10 : Int) → Go sc d mt_98 52 [vr 805] [] (z_cfg t, I, J) Q))))) ∧ (¬ I 805 3 < I 805 2 → Go sc d mt_98 52 [vr 805] [] (z_cfg t, I, J) Q)))) : Go sc d mt_98 0 [vr 805] [] (z_cfg t, I, J) Q := by
  obtain ⟨ts, te, tt, b1, b2, b3, b4, b5, b6⟩ := t
  · exact z_sound (f := false) (cuts := [0, 39, 52, 95, 151, 214, 251]) 300 0 [vr 805] [] (z_tab (ts, te, tt, b1, b2, b3, b4, b5, b6) ++ t_l (ts, te, tt, b1, b2, b3, b4, b5, b6), t_s (ts, te, tt, b1, b2, b3, b4, b5, b6), I, J) (show (inR (I 805 3)) ∧ (inR (I 805 2)) ∧ ((I 805 3 < I 805 2 → (0 ≤ I 805 3 ∧ I 805 3 < 700) ∧ (inR (I 85 (I 805 3).toNat)) ∧ (inR 32) ∧ ((I 85 (I 805 3).toNat = (32 : Int) → Go sc d mt_98 39 [vr 805] [] (z_cfg (ts, te, tt, b1, b2, b3, b4, b5, b6), I, J) Q) ∧ (¬ I 85 (I 805 3).toNat = (32 : Int) → (0 ≤ I 805 3 ∧ I 805 3 < 700) ∧ (inR (I 85 (I 805 3).toNat)) ∧ (inR 10) ∧ ((I 85 (I 805 3).toNat = (10 : Int) → Go sc d mt_98 39 [vr 805] [] (z_cfg (ts, te, tt, b1, b2, b3, b4, b5, b6), I, J) Q) ∧ (¬ I 85 (I 805 3).toNat = (10 : Int) → Go sc d mt_98 52 [vr 805] [] (z_cfg (ts, te, tt, b1, b2, b3, b4, b5, b6), I, J) Q))))) ∧ (¬ I 805 3 < I 805 2 → Go sc d mt_98 52 [vr 805] [] (z_cfg (ts, te, tt, b1, b2, b3, b4, b5, b6), I, J) Q)) from ⟨h.1, ⟨h.2.1, ⟨fun c0 => ⟨(h.2.2.1 c0).1, ⟨(h.2.2.1 c0).2.1, ⟨⟨by decide, by decide⟩, ⟨fun c1 => ((h.2.2.1 c0).2.2.1 c1), fun c1 => ⟨(h.2.2.1 c0).1, ⟨(h.2.2.1 c0).2.1, ⟨⟨by decide, by decide⟩, ⟨fun c2 => (((h.2.2.1 c0).2.2.2 c1).1 c2), fun c2 => (((h.2.2.1 c0).2.2.2 c1).2 c2)⟩⟩⟩⟩⟩⟩⟩⟩, fun c0 => (h.2.2.2 c0)⟩⟩⟩)
set_option maxRecDepth 8000 in
theorem b98_39 (h : Go sc d mt_98 0 [vr 805] [] (z_cfg t, z_u I 805 3 ((I 805 3) + 1), J) Q) : Go sc d mt_98 39 [vr 805] [] (z_cfg t, I, J) Q := by
  obtain ⟨ts, te, tt, b1, b2, b3, b4, b5, b6⟩ := t
  · exact z_sound (f := false) (cuts := [0, 39, 52, 95, 151, 214, 251]) 300 39 [vr 805] [] (z_tab (ts, te, tt, b1, b2, b3, b4, b5, b6) ++ t_l (ts, te, tt, b1, b2, b3, b4, b5, b6), t_s (ts, te, tt, b1, b2, b3, b4, b5, b6), I, J) h
set_option maxRecDepth 8000 in
theorem b98_52 (h : (inR (I 805 3)) ∧ ((inR (I 805 2)) ∧ ((I 805 3 < I 805 2 → Cl sc d 99 [vr 805, vi (I 805 3)] (z_cfg t, z_u I 805 5 (I 805 3), J) (z_k sc d mt_98 false 84 [vr 805] [] Q)) ∧ (¬ I 805 3 < I 805 2 → Q (.inl none) (z_cfg t, z_u (z_u I 805 5 (I 805 3)) 805 4 0, J))))) : Go sc d mt_98 52 [vr 805] [] (z_cfg t, I, J) Q := by
  obtain ⟨ts, te, tt, b1, b2, b3, b4, b5, b6⟩ := t
  · exact z_sound (f := false) (cuts := [0, 39, 52, 95, 151, 214, 251]) 300 52 [vr 805] [] (z_tab (ts, te, tt, b1, b2, b3, b4, b5, b6) ++ t_l (ts, te, tt, b1, b2, b3, b4, b5, b6), t_s (ts, te, tt, b1, b2, b3, b4, b5, b6), I, J) h
set_option maxRecDepth 8000 in
theorem b98_87 {s0 : Int} (h : (inR s0) ∧ ((s0 = 0 → Cl sc d 100 [vr 805, vi (I 805 3)] (z_cfg t, I, J) (z_k sc d mt_98 false 135 [vr 805] [] Q)) ∧ (¬ s0 = 0 → Go sc d mt_98 95 [vr 805] [] (z_cfg t, z_u I 805 4 1, J) Q))) : Go sc d mt_98 87 [vr 805] [vi s0] (z_cfg t, I, J) Q := by
  obtain ⟨ts, te, tt, b1, b2, b3, b4, b5, b6⟩ := t
  · exact z_sound (f := false) (cuts := [0, 39, 52, 95, 151, 214, 251]) 300 87 [vr 805] [vi s0] (z_tab (ts, te, tt, b1, b2, b3, b4, b5, b6) ++ t_l (ts, te, tt, b1, b2, b3, b4, b5, b6), t_s (ts, te, tt, b1, b2, b3, b4, b5, b6), I, J) h
set_option maxRecDepth 8000 in
theorem b98_95 (h : (inR (I 805 3)) ∧ ((inR (I 805 2)) ∧ ((I 805 3 < I 805 2 → Cl sc d 99 [vr 805, vi (I 805 3)] (z_cfg t, I, J) (z_k sc d mt_98 false 111 [vr 805] [] Q)) ∧ (¬ I 805 3 < I 805 2 → Q (.inl none) (z_cfg t, I, J))))) : Go sc d mt_98 95 [vr 805] [] (z_cfg t, I, J) Q := by
  obtain ⟨ts, te, tt, b1, b2, b3, b4, b5, b6⟩ := t
  · exact z_sound (f := false) (cuts := [0, 39, 52, 95, 151, 214, 251]) 300 95 [vr 805] [] (z_tab (ts, te, tt, b1, b2, b3, b4, b5, b6) ++ t_l (ts, te, tt, b1, b2, b3, b4, b5, b6), t_s (ts, te, tt, b1, b2, b3, b4, b5, b6), I, J) h
set_option maxRecDepth 8000 in
theorem b98_114 {s0 : Int} (h : (inR s0) ∧ ((s0 = 0 → Q (.inl none) (z_cfg t, I, J)) ∧ (¬ s0 = 0 → Go sc d mt_98 95 [vr 805] [] (z_cfg t, z_u I 805 3 ((I 805 3) + 1), J) Q))) : Go sc d mt_98 114 [vr 805] [vi s0] (z_cfg t, I, J) Q := by
  obtain ⟨ts, te, tt, b1, b2, b3, b4, b5, b6⟩ := t
  · exact z_sound (f := false) (cuts := [0, 39, 52, 95, 151, 214, 251]) 300 114 [vr 805] [vi s0] (z_tab (ts, te, tt, b1, b2, b3, b4, b5, b6) ++ t_l (ts, te, tt, b1, b2, b3, b4, b5, b6), t_s (ts, te, tt, b1, b2, b3, b4, b5, b6), I, J) h
set_option maxRecDepth 8000 in
theorem b98_138 {s0 : Int} (h : (inR s0) ∧ ((s0 = 0 → (0 ≤ I 805 3 ∧ I 805 3 < 700) ∧ Cl sc d 101 [vi (I 85 (I 805 3).toNat)] (z_cfg t, I, J) (z_k sc d mt_98 false 240 [vr 805] [vr 805] Q)) ∧ (¬ s0 = 0 → Go sc d mt_98 151 [vr 805] [] (z_cfg t, z_u (z_u I 805 4 2) 805 6 0, J) Q))) : Go sc d mt_98 138 [vr 805] [vi s0] (z_cfg t, I, J) Q := by
  obtain ⟨ts, te, tt, b1, b2, b3, b4, b5, b6⟩ := t
  · exact z_sound (f := false) (cuts := [0, 39, 52, 95, 151, 214, 251]) 300 138 [vr 805] [vi s0] (z_tab (ts, te, tt, b1, b2, b3, b4, b5, b6) ++ t_l (ts, te, tt, b1, b2, b3, b4, b5, b6), t_s (ts, te, tt, b1, b2, b3, b4, b5, b6), I, J) h
set_option maxRecDepth 8000 in
theorem b98_151 (h : (inR (I 805 3)) ∧ ((inR (I 805 2)) ∧ ((I 805 3 < I 805 2 → Cl sc d 100 [vr 805, vi (I 805 3)] (z_cfg t, I, J) (z_k sc d mt_98 false 167 [vr 805] [] Q)) ∧ (¬ I 805 3 < I 805 2 → Q (.inl none) (z_cfg t, I, J))))) : Go sc d mt_98 151 [vr 805] [] (z_cfg t, I, J) Q := by
  obtain ⟨ts, te, tt, b1, b2, b3, b4, b5, b6⟩ := t
  · exact z_sound (f := false) (cuts := [0, 39, 52, 95, 151, 214, 251]) 300 151 [vr 805] [] (z_tab (ts, te, tt, b1, b2, b3, b4, b5, b6) ++ t_l (ts, te, tt, b1, b2, b3, b4, b5, b6), t_s (ts, te, tt, b1, b2, b3, b4, b5, b6), I, J) h
set_option maxRecDepth 8000 in
theorem b98_170 {s0 : Int} (h : (inR s0) ∧ ((s0 = 0 → Q (.inl none) (z_cfg t, I, J)) ∧ (¬ s0 = 0 → (inR ((I 805 3) - (I 805 5))) ∧ (((I 805 3) - (I 805 5) < (3 : Int) → (0 ≤ I 805 3 ∧ I 805 3 < 700) ∧ Go sc d mt_98 214 [vr 805] [vi ((((I 805 6) * 10) + (I 85 (I 805 3).toNat)) - 48), vr 805] (z_cfg t, I, J) Q) ∧ (¬ (I 805 3) - (I 805 5) < (3 : Int) → Go sc d mt_98 214 [vr 805] [vi (I 805 6), vr 805] (z_cfg t, I, J) Q))))) : Go sc d mt_98 170 [vr 805] [vi s0] (z_cfg t, I, J) Q := by
  obtain ⟨ts, te, tt, b1, b2, b3, b4, b5, b6⟩ := t
  · exact z_sound (f := false) (cuts := [0, 39, 52, 95, 151, 214, 251]) 300 170 [vr 805] [vi s0] (z_tab (ts, te, tt, b1, b2, b3, b4, b5, b6) ++ t_l (ts, te, tt, b1, b2, b3, b4, b5, b6), t_s (ts, te, tt, b1, b2, b3, b4, b5, b6), I, J) (show (inR s0) ∧ ((s0 = 0 → Q (.inl none) (z_cfg (ts, te, tt, b1, b2, b3, b4, b5, b6), I, J)) ∧ (¬ s0 = 0 → (inR ((I 805 3) - (I 805 5))) ∧ (inR 3) ∧ (((I 805 3) - (I 805 5) < (3 : Int) → (0 ≤ I 805 3 ∧ I 805 3 < 700) ∧ Go sc d mt_98 214 [vr 805] [vi ((((I 805 6) * 10) + (I 85 (I 805 3).toNat)) - 48), vr 805] (z_cfg (ts, te, tt, b1, b2, b3, b4, b5, b6), I, J) Q) ∧ (¬ (I 805 3) - (I 805 5) < (3 : Int) → Go sc d mt_98 214 [vr 805] [vi (I 805 6), vr 805] (z_cfg (ts, te, tt, b1, b2, b3, b4, b5, b6), I, J) Q)))) from ⟨h.1, ⟨fun c0 => (h.2.1 c0), fun c0 => ⟨(h.2.2 c0).1, ⟨⟨by decide, by decide⟩, ⟨fun c1 => ⟨((h.2.2 c0).2.1 c1).1, ((h.2.2 c0).2.1 c1).2⟩, fun c1 => ((h.2.2 c0).2.2 c1)⟩⟩⟩⟩⟩)
set_option maxRecDepth 8000 in
theorem b98_214 {s0 : Int} (h : Go sc d mt_98 151 [vr 805] [] (z_cfg t, z_u (z_u I 805 6 s0) 805 3 ((I 805 3) + 1), J) Q) : Go sc d mt_98 214 [vr 805] [vi s0, vr 805] (z_cfg t, I, J) Q := by
  obtain ⟨ts, te, tt, b1, b2, b3, b4, b5, b6⟩ := t
  · exact z_sound (f := false) (cuts := [0, 39, 52, 95, 151, 214, 251]) 300 214 [vr 805] [vi s0, vr 805] (z_tab (ts, te, tt, b1, b2, b3, b4, b5, b6) ++ t_l (ts, te, tt, b1, b2, b3, b4, b5, b6), t_s (ts, te, tt, b1, b2, b3, b4, b5, b6), I, J) h
set_option maxRecDepth 8000 in
theorem b98_243 {s0 : Int} (h : (inR s0) ∧ ((s0 = 0 → Go sc d mt_98 251 [vr 805] [vi 4, vr 805] (z_cfg t, I, J) Q) ∧ (¬ s0 = 0 → Go sc d mt_98 251 [vr 805] [vi 3, vr 805] (z_cfg t, I, J) Q))) : Go sc d mt_98 243 [vr 805] [vi s0, vr 805] (z_cfg t, I, J) Q := by
  obtain ⟨ts, te, tt, b1, b2, b3, b4, b5, b6⟩ := t
  · exact z_sound (f := false) (cuts := [0, 39, 52, 95, 151, 214, 251]) 300 243 [vr 805] [vi s0, vr 805] (z_tab (ts, te, tt, b1, b2, b3, b4, b5, b6) ++ t_l (ts, te, tt, b1, b2, b3, b4, b5, b6), t_s (ts, te, tt, b1, b2, b3, b4, b5, b6), I, J) h
set_option maxRecDepth 8000 in
theorem b98_251 {s0 : Int} (h : Q (.inl none) (z_cfg t, z_u (z_u I 805 4 s0) 805 3 ((I 805 3) + 1), J)) : Go sc d mt_98 251 [vr 805] [vi s0, vr 805] (z_cfg t, I, J) Q := by
  obtain ⟨ts, te, tt, b1, b2, b3, b4, b5, b6⟩ := t
  · exact z_sound (f := false) (cuts := [0, 39, 52, 95, 151, 214, 251]) 300 251 [vr 805] [vi s0, vr 805] (z_tab (ts, te, tt, b1, b2, b3, b4, b5, b6) ++ t_l (ts, te, tt, b1, b2, b3, b4, b5, b6), t_s (ts, te, tt, b1, b2, b3, b4, b5, b6), I, J) h
theorem c98 {w : zW} {K : zR → zW → Prop} (hd : 1 ≤ d) (h : ∀ d', d = d' + 1 → Go sc d' mt_98 0 [vr 805] [] w K) : Cl sc d 98 [vr 805] w K := Cl_of rfl hd h
/-! FerryHall$Reader isLetter (I)Z -/
set_option maxRecDepth 8000 in
theorem b99_0 {x1 : Int} (h : (inR x1) ∧ ((x1 < 0 → Q (.inl (some (vi 0))) (z_cfg t, I, J)) ∧ (¬ x1 < 0 → (x1 < (700 : Int) → (inR (I 85 (x1).toNat)) ∧ ((I 85 (x1).toNat < (97 : Int) → Q (.inl (some (vi 0))) (z_cfg t, I, J)) ∧ (¬ I 85 (x1).toNat < (97 : Int) → ((122 : Int) < I 85 (x1).toNat → Q (.inl (some (vi 0))) (z_cfg t, I, J)) ∧ (¬ (122 : Int) < I 85 (x1).toNat → Q (.inl (some (vi 1))) (z_cfg t, I, J))))) ∧ (¬ x1 < (700 : Int) → Q (.inl (some (vi 0))) (z_cfg t, I, J))))) : Go sc d mt_99 0 [vr 805, vi x1] [] (z_cfg t, I, J) Q := by
  obtain ⟨ts, te, tt, b1, b2, b3, b4, b5, b6⟩ := t
  · exact z_sound (f := false) (cuts := []) 300 0 [vr 805, vi x1] [] (z_tab (ts, te, tt, b1, b2, b3, b4, b5, b6) ++ t_l (ts, te, tt, b1, b2, b3, b4, b5, b6), t_s (ts, te, tt, b1, b2, b3, b4, b5, b6), I, J) (show (inR x1) ∧ ((x1 < 0 → ((0 : Int) = 0 ∨ (0 : Int) = 1) ∧ Q (.inl (some (vi 0))) (z_cfg (ts, te, tt, b1, b2, b3, b4, b5, b6), I, J)) ∧ (¬ x1 < 0 → (inR x1) ∧ (inR 700) ∧ ((x1 < (700 : Int) → (0 ≤ x1 ∧ x1 < 700) ∧ (inR (I 85 (x1).toNat)) ∧ (inR 97) ∧ ((I 85 (x1).toNat < (97 : Int) → ((0 : Int) = 0 ∨ (0 : Int) = 1) ∧ Q (.inl (some (vi 0))) (z_cfg (ts, te, tt, b1, b2, b3, b4, b5, b6), I, J)) ∧ (¬ I 85 (x1).toNat < (97 : Int) → (0 ≤ x1 ∧ x1 < 700) ∧ (inR (I 85 (x1).toNat)) ∧ (inR 122) ∧ (((122 : Int) < I 85 (x1).toNat → ((0 : Int) = 0 ∨ (0 : Int) = 1) ∧ Q (.inl (some (vi 0))) (z_cfg (ts, te, tt, b1, b2, b3, b4, b5, b6), I, J)) ∧ (¬ (122 : Int) < I 85 (x1).toNat → ((1 : Int) = 0 ∨ (1 : Int) = 1) ∧ Q (.inl (some (vi 1))) (z_cfg (ts, te, tt, b1, b2, b3, b4, b5, b6), I, J)))))) ∧ (¬ x1 < (700 : Int) → ((0 : Int) = 0 ∨ (0 : Int) = 1) ∧ Q (.inl (some (vi 0))) (z_cfg (ts, te, tt, b1, b2, b3, b4, b5, b6), I, J))))) from ⟨h.1, ⟨fun c0 => ⟨by decide, (h.2.1 c0)⟩, fun c0 => ⟨h.1, ⟨⟨by decide, by decide⟩, ⟨fun c1 => ⟨⟨by omega, by omega⟩, ⟨((h.2.2 c0).1 c1).1, ⟨⟨by decide, by decide⟩, ⟨fun c2 => ⟨by decide, (((h.2.2 c0).1 c1).2.1 c2)⟩, fun c2 => ⟨⟨by omega, by omega⟩, ⟨((h.2.2 c0).1 c1).1, ⟨⟨by decide, by decide⟩, ⟨fun c3 => ⟨by decide, ((((h.2.2 c0).1 c1).2.2 c2).1 c3)⟩, fun c3 => ⟨by decide, ((((h.2.2 c0).1 c1).2.2 c2).2 c3)⟩⟩⟩⟩⟩⟩⟩⟩⟩, fun c1 => ⟨by decide, ((h.2.2 c0).2 c1)⟩⟩⟩⟩⟩⟩)
theorem c99 {x1 : Int} {w : zW} {K : zR → zW → Prop} (hd : 1 ≤ d) (h : ∀ d', d = d' + 1 → Go sc d' mt_99 0 [vr 805, vi x1] [] w K) : Cl sc d 99 [vr 805, vi x1] w K := Cl_of rfl hd h
/-! FerryHall$Reader isDigit (I)Z -/
set_option maxRecDepth 8000 in
theorem b100_0 {x1 : Int} (h : (inR x1) ∧ ((x1 < 0 → Q (.inl (some (vi 0))) (z_cfg t, I, J)) ∧ (¬ x1 < 0 → (x1 < (700 : Int) → (inR (I 85 (x1).toNat)) ∧ ((I 85 (x1).toNat < (48 : Int) → Q (.inl (some (vi 0))) (z_cfg t, I, J)) ∧ (¬ I 85 (x1).toNat < (48 : Int) → ((57 : Int) < I 85 (x1).toNat → Q (.inl (some (vi 0))) (z_cfg t, I, J)) ∧ (¬ (57 : Int) < I 85 (x1).toNat → Q (.inl (some (vi 1))) (z_cfg t, I, J))))) ∧ (¬ x1 < (700 : Int) → Q (.inl (some (vi 0))) (z_cfg t, I, J))))) : Go sc d mt_100 0 [vr 805, vi x1] [] (z_cfg t, I, J) Q := by
  obtain ⟨ts, te, tt, b1, b2, b3, b4, b5, b6⟩ := t
  · exact z_sound (f := false) (cuts := []) 300 0 [vr 805, vi x1] [] (z_tab (ts, te, tt, b1, b2, b3, b4, b5, b6) ++ t_l (ts, te, tt, b1, b2, b3, b4, b5, b6), t_s (ts, te, tt, b1, b2, b3, b4, b5, b6), I, J) (show (inR x1) ∧ ((x1 < 0 → ((0 : Int) = 0 ∨ (0 : Int) = 1) ∧ Q (.inl (some (vi 0))) (z_cfg (ts, te, tt, b1, b2, b3, b4, b5, b6), I, J)) ∧ (¬ x1 < 0 → (inR x1) ∧ (inR 700) ∧ ((x1 < (700 : Int) → (0 ≤ x1 ∧ x1 < 700) ∧ (inR (I 85 (x1).toNat)) ∧ (inR 48) ∧ ((I 85 (x1).toNat < (48 : Int) → ((0 : Int) = 0 ∨ (0 : Int) = 1) ∧ Q (.inl (some (vi 0))) (z_cfg (ts, te, tt, b1, b2, b3, b4, b5, b6), I, J)) ∧ (¬ I 85 (x1).toNat < (48 : Int) → (0 ≤ x1 ∧ x1 < 700) ∧ (inR (I 85 (x1).toNat)) ∧ (inR 57) ∧ (((57 : Int) < I 85 (x1).toNat → ((0 : Int) = 0 ∨ (0 : Int) = 1) ∧ Q (.inl (some (vi 0))) (z_cfg (ts, te, tt, b1, b2, b3, b4, b5, b6), I, J)) ∧ (¬ (57 : Int) < I 85 (x1).toNat → ((1 : Int) = 0 ∨ (1 : Int) = 1) ∧ Q (.inl (some (vi 1))) (z_cfg (ts, te, tt, b1, b2, b3, b4, b5, b6), I, J)))))) ∧ (¬ x1 < (700 : Int) → ((0 : Int) = 0 ∨ (0 : Int) = 1) ∧ Q (.inl (some (vi 0))) (z_cfg (ts, te, tt, b1, b2, b3, b4, b5, b6), I, J))))) from ⟨h.1, ⟨fun c0 => ⟨by decide, (h.2.1 c0)⟩, fun c0 => ⟨h.1, ⟨⟨by decide, by decide⟩, ⟨fun c1 => ⟨⟨by omega, by omega⟩, ⟨((h.2.2 c0).1 c1).1, ⟨⟨by decide, by decide⟩, ⟨fun c2 => ⟨by decide, (((h.2.2 c0).1 c1).2.1 c2)⟩, fun c2 => ⟨⟨by omega, by omega⟩, ⟨((h.2.2 c0).1 c1).1, ⟨⟨by decide, by decide⟩, ⟨fun c3 => ⟨by decide, ((((h.2.2 c0).1 c1).2.2 c2).1 c3)⟩, fun c3 => ⟨by decide, ((((h.2.2 c0).1 c1).2.2 c2).2 c3)⟩⟩⟩⟩⟩⟩⟩⟩⟩, fun c1 => ⟨by decide, ((h.2.2 c0).2 c1)⟩⟩⟩⟩⟩⟩)
theorem c100 {x1 : Int} {w : zW} {K : zR → zW → Prop} (hd : 1 ≤ d) (h : ∀ d', d = d' + 1 → Go sc d' mt_100 0 [vr 805, vi x1] [] w K) : Cl sc d 100 [vr 805, vi x1] w K := Cl_of rfl hd h
/-! FerryHall$Reader isSignByte (I)Z -/
set_option maxRecDepth 8000 in
theorem b101_0 {x0 : Int} (h : (inR x0) ∧ (((x0 = 40 → Q (.inl (some (vi 1))) (z_cfg t, I, J)) ∧ (x0 = 41 → Q (.inl (some (vi 1))) (z_cfg t, I, J)) ∧ (x0 = 42 → Q (.inl (some (vi 1))) (z_cfg t, I, J)) ∧ (x0 = 43 → Q (.inl (some (vi 1))) (z_cfg t, I, J)) ∧ (x0 = 44 → Q (.inl (some (vi 0))) (z_cfg t, I, J)) ∧ (x0 = 45 → Q (.inl (some (vi 1))) (z_cfg t, I, J)) ∧ (x0 = 46 → Q (.inl (some (vi 0))) (z_cfg t, I, J)) ∧ (x0 = 47 → Q (.inl (some (vi 1))) (z_cfg t, I, J)) ∧ (x0 = 48 → Q (.inl (some (vi 0))) (z_cfg t, I, J)) ∧ (x0 = 49 → Q (.inl (some (vi 0))) (z_cfg t, I, J)) ∧ (x0 = 50 → Q (.inl (some (vi 0))) (z_cfg t, I, J)) ∧ (x0 = 51 → Q (.inl (some (vi 0))) (z_cfg t, I, J)) ∧ (x0 = 52 → Q (.inl (some (vi 0))) (z_cfg t, I, J)) ∧ (x0 = 53 → Q (.inl (some (vi 0))) (z_cfg t, I, J)) ∧ (x0 = 54 → Q (.inl (some (vi 0))) (z_cfg t, I, J)) ∧ (x0 = 55 → Q (.inl (some (vi 0))) (z_cfg t, I, J)) ∧ (x0 = 56 → Q (.inl (some (vi 0))) (z_cfg t, I, J)) ∧ (x0 = 57 → Q (.inl (some (vi 0))) (z_cfg t, I, J)) ∧ (x0 = 58 → Q (.inl (some (vi 0))) (z_cfg t, I, J)) ∧ (x0 = 59 → Q (.inl (some (vi 1))) (z_cfg t, I, J)) ∧ (x0 = 60 → Q (.inl (some (vi 1))) (z_cfg t, I, J)) ∧ (x0 = 61 → Q (.inl (some (vi 1))) (z_cfg t, I, J)) ∧ True) ∧ (x0 < 40 ∨ 61 < x0 → Q (.inl (some (vi 0))) (z_cfg t, I, J)))) : Go sc d mt_101 0 [vi x0] [] (z_cfg t, I, J) Q := by
  obtain ⟨ts, te, tt, b1, b2, b3, b4, b5, b6⟩ := t
  · exact z_sound (f := false) (cuts := []) 300 0 [vi x0] [] (z_tab (ts, te, tt, b1, b2, b3, b4, b5, b6) ++ t_l (ts, te, tt, b1, b2, b3, b4, b5, b6), t_s (ts, te, tt, b1, b2, b3, b4, b5, b6), I, J) (show (inR x0) ∧ (((x0 = 40 → ((1 : Int) = 0 ∨ (1 : Int) = 1) ∧ Q (.inl (some (vi 1))) (z_cfg (ts, te, tt, b1, b2, b3, b4, b5, b6), I, J)) ∧ (x0 = 41 → ((1 : Int) = 0 ∨ (1 : Int) = 1) ∧ Q (.inl (some (vi 1))) (z_cfg (ts, te, tt, b1, b2, b3, b4, b5, b6), I, J)) ∧ (x0 = 42 → ((1 : Int) = 0 ∨ (1 : Int) = 1) ∧ Q (.inl (some (vi 1))) (z_cfg (ts, te, tt, b1, b2, b3, b4, b5, b6), I, J)) ∧ (x0 = 43 → ((1 : Int) = 0 ∨ (1 : Int) = 1) ∧ Q (.inl (some (vi 1))) (z_cfg (ts, te, tt, b1, b2, b3, b4, b5, b6), I, J)) ∧ (x0 = 44 → ((0 : Int) = 0 ∨ (0 : Int) = 1) ∧ Q (.inl (some (vi 0))) (z_cfg (ts, te, tt, b1, b2, b3, b4, b5, b6), I, J)) ∧ (x0 = 45 → ((1 : Int) = 0 ∨ (1 : Int) = 1) ∧ Q (.inl (some (vi 1))) (z_cfg (ts, te, tt, b1, b2, b3, b4, b5, b6), I, J)) ∧ (x0 = 46 → ((0 : Int) = 0 ∨ (0 : Int) = 1) ∧ Q (.inl (some (vi 0))) (z_cfg (ts, te, tt, b1, b2, b3, b4, b5, b6), I, J)) ∧ (x0 = 47 → ((1 : Int) = 0 ∨ (1 : Int) = 1) ∧ Q (.inl (some (vi 1))) (z_cfg (ts, te, tt, b1, b2, b3, b4, b5, b6), I, J)) ∧ (x0 = 48 → ((0 : Int) = 0 ∨ (0 : Int) = 1) ∧ Q (.inl (some (vi 0))) (z_cfg (ts, te, tt, b1, b2, b3, b4, b5, b6), I, J)) ∧ (x0 = 49 → ((0 : Int) = 0 ∨ (0 : Int) = 1) ∧ Q (.inl (some (vi 0))) (z_cfg (ts, te, tt, b1, b2, b3, b4, b5, b6), I, J)) ∧ (x0 = 50 → ((0 : Int) = 0 ∨ (0 : Int) = 1) ∧ Q (.inl (some (vi 0))) (z_cfg (ts, te, tt, b1, b2, b3, b4, b5, b6), I, J)) ∧ (x0 = 51 → ((0 : Int) = 0 ∨ (0 : Int) = 1) ∧ Q (.inl (some (vi 0))) (z_cfg (ts, te, tt, b1, b2, b3, b4, b5, b6), I, J)) ∧ (x0 = 52 → ((0 : Int) = 0 ∨ (0 : Int) = 1) ∧ Q (.inl (some (vi 0))) (z_cfg (ts, te, tt, b1, b2, b3, b4, b5, b6), I, J)) ∧ (x0 = 53 → ((0 : Int) = 0 ∨ (0 : Int) = 1) ∧ Q (.inl (some (vi 0))) (z_cfg (ts, te, tt, b1, b2, b3, b4, b5, b6), I, J)) ∧ (x0 = 54 → ((0 : Int) = 0 ∨ (0 : Int) = 1) ∧ Q (.inl (some (vi 0))) (z_cfg (ts, te, tt, b1, b2, b3, b4, b5, b6), I, J)) ∧ (x0 = 55 → ((0 : Int) = 0 ∨ (0 : Int) = 1) ∧ Q (.inl (some (vi 0))) (z_cfg (ts, te, tt, b1, b2, b3, b4, b5, b6), I, J)) ∧ (x0 = 56 → ((0 : Int) = 0 ∨ (0 : Int) = 1) ∧ Q (.inl (some (vi 0))) (z_cfg (ts, te, tt, b1, b2, b3, b4, b5, b6), I, J)) ∧ (x0 = 57 → ((0 : Int) = 0 ∨ (0 : Int) = 1) ∧ Q (.inl (some (vi 0))) (z_cfg (ts, te, tt, b1, b2, b3, b4, b5, b6), I, J)) ∧ (x0 = 58 → ((0 : Int) = 0 ∨ (0 : Int) = 1) ∧ Q (.inl (some (vi 0))) (z_cfg (ts, te, tt, b1, b2, b3, b4, b5, b6), I, J)) ∧ (x0 = 59 → ((1 : Int) = 0 ∨ (1 : Int) = 1) ∧ Q (.inl (some (vi 1))) (z_cfg (ts, te, tt, b1, b2, b3, b4, b5, b6), I, J)) ∧ (x0 = 60 → ((1 : Int) = 0 ∨ (1 : Int) = 1) ∧ Q (.inl (some (vi 1))) (z_cfg (ts, te, tt, b1, b2, b3, b4, b5, b6), I, J)) ∧ (x0 = 61 → ((1 : Int) = 0 ∨ (1 : Int) = 1) ∧ Q (.inl (some (vi 1))) (z_cfg (ts, te, tt, b1, b2, b3, b4, b5, b6), I, J)) ∧ True) ∧ (x0 < 40 ∨ 61 < x0 → ((0 : Int) = 0 ∨ (0 : Int) = 1) ∧ Q (.inl (some (vi 0))) (z_cfg (ts, te, tt, b1, b2, b3, b4, b5, b6), I, J))) from ⟨h.1, ⟨⟨fun c0 => ⟨by decide, (h.2.1.1 c0)⟩, fun c0 => ⟨by decide, (h.2.1.2.1 c0)⟩, fun c0 => ⟨by decide, (h.2.1.2.2.1 c0)⟩, fun c0 => ⟨by decide, (h.2.1.2.2.2.1 c0)⟩, fun c0 => ⟨by decide, (h.2.1.2.2.2.2.1 c0)⟩, fun c0 => ⟨by decide, (h.2.1.2.2.2.2.2.1 c0)⟩, fun c0 => ⟨by decide, (h.2.1.2.2.2.2.2.2.1 c0)⟩, fun c0 => ⟨by decide, (h.2.1.2.2.2.2.2.2.2.1 c0)⟩, fun c0 => ⟨by decide, (h.2.1.2.2.2.2.2.2.2.2.1 c0)⟩, fun c0 => ⟨by decide, (h.2.1.2.2.2.2.2.2.2.2.2.1 c0)⟩, fun c0 => ⟨by decide, (h.2.1.2.2.2.2.2.2.2.2.2.2.1 c0)⟩, fun c0 => ⟨by decide, (h.2.1.2.2.2.2.2.2.2.2.2.2.2.1 c0)⟩, fun c0 => ⟨by decide, (h.2.1.2.2.2.2.2.2.2.2.2.2.2.2.1 c0)⟩, fun c0 => ⟨by decide, (h.2.1.2.2.2.2.2.2.2.2.2.2.2.2.2.1 c0)⟩, fun c0 => ⟨by decide, (h.2.1.2.2.2.2.2.2.2.2.2.2.2.2.2.2.1 c0)⟩, fun c0 => ⟨by decide, (h.2.1.2.2.2.2.2.2.2.2.2.2.2.2.2.2.2.1 c0)⟩, fun c0 => ⟨by decide, (h.2.1.2.2.2.2.2.2.2.2.2.2.2.2.2.2.2.2.1 c0)⟩, fun c0 => ⟨by decide, (h.2.1.2.2.2.2.2.2.2.2.2.2.2.2.2.2.2.2.2.1 c0)⟩, fun c0 => ⟨by decide, (h.2.1.2.2.2.2.2.2.2.2.2.2.2.2.2.2.2.2.2.2.1 c0)⟩, fun c0 => ⟨by decide, (h.2.1.2.2.2.2.2.2.2.2.2.2.2.2.2.2.2.2.2.2.2.1 c0)⟩, fun c0 => ⟨by decide, (h.2.1.2.2.2.2.2.2.2.2.2.2.2.2.2.2.2.2.2.2.2.2.1 c0)⟩, fun c0 => ⟨by decide, (h.2.1.2.2.2.2.2.2.2.2.2.2.2.2.2.2.2.2.2.2.2.2.2.1 c0)⟩, trivial⟩, fun c0 => ⟨by decide, (h.2.2 c0)⟩⟩⟩)
theorem c101 {x0 : Int} {w : zW} {K : zR → zW → Prop} (hd : 1 ≤ d) (h : ∀ d', d = d' + 1 → Go sc d' mt_101 0 [vi x0] [] w K) : Cl sc d 101 [vi x0] w K := Cl_of rfl hd h
/-! FerryHall$Reader readShores ()V -/
set_option maxRecDepth 8000 in
theorem b102_0 (h : Cl sc d 103 [vr 805, vr 505] (z_cfg t, I, J) (z_k sc d mt_102 false 3 [vr 805] [] Q)) : Go sc d mt_102 0 [vr 805] [] (z_cfg t, I, J) Q := by
  obtain ⟨ts, te, tt, b1, b2, b3, b4, b5, b6⟩ := t
  · exact z_sound (f := false) (cuts := []) 300 0 [vr 805] [] (z_tab (ts, te, tt, b1, b2, b3, b4, b5, b6) ++ t_l (ts, te, tt, b1, b2, b3, b4, b5, b6), t_s (ts, te, tt, b1, b2, b3, b4, b5, b6), I, J) h
set_option maxRecDepth 8000 in
theorem b102_6 {s0 : Int} (h : (inR s0) ∧ ((s0 = 0 → Q (.inl none) (z_cfg t, I, J)) ∧ (¬ s0 = 0 → Cl sc d 105 [vr 805, vi 2, vi 4] (z_cfg t, I, J) (z_k sc d mt_102 false 16 [vr 805] [vr (z_md (t_eb t))] Q)))) : Go sc d mt_102 6 [vr 805] [vi s0] (z_cfg t, I, J) Q := by
  obtain ⟨ts, te, tt, b1, b2, b3, b4, b5, b6⟩ := t
  cases b6
  · exact z_sound (f := false) (cuts := []) 300 6 [vr 805] [vi s0] (z_tab (ts, te, tt, b1, b2, b3, b4, b5, false) ++ t_l (ts, te, tt, b1, b2, b3, b4, b5, false), t_s (ts, te, tt, b1, b2, b3, b4, b5, false), I, J) h
  · exact z_sound (f := false) (cuts := []) 300 6 [vr 805] [vi s0] (z_tab (ts, te, tt, b1, b2, b3, b4, b5, true) ++ t_l (ts, te, tt, b1, b2, b3, b4, b5, true), t_s (ts, te, tt, b1, b2, b3, b4, b5, true), I, J) h
set_option maxRecDepth 8000 in
theorem b102_19 {s0 : Int} (h : Cl sc d 107 [vr 805, vi 59] (z_cfg t, z_u I (z_md (t_eb t)) 0 s0, J) (z_k sc d mt_102 false 25 [vr 805] [] Q)) : Go sc d mt_102 19 [vr 805] [vi s0, vr (z_md (t_eb t))] (z_cfg t, I, J) Q := by
  obtain ⟨ts, te, tt, b1, b2, b3, b4, b5, b6⟩ := t
  cases b6
  · exact z_sound (f := false) (cuts := []) 300 19 [vr 805] [vi s0, vr (z_md (false))] (z_tab (ts, te, tt, b1, b2, b3, b4, b5, false) ++ t_l (ts, te, tt, b1, b2, b3, b4, b5, false), t_s (ts, te, tt, b1, b2, b3, b4, b5, false), I, J) h
  · exact z_sound (f := false) (cuts := []) 300 19 [vr 805] [vi s0, vr (z_md (true))] (z_tab (ts, te, tt, b1, b2, b3, b4, b5, true) ++ t_l (ts, te, tt, b1, b2, b3, b4, b5, true), t_s (ts, te, tt, b1, b2, b3, b4, b5, true), I, J) h
set_option maxRecDepth 8000 in
theorem b102_28 (h : Q (.inl none) (z_cfg t, I, J)) : Go sc d mt_102 28 [vr 805] [] (z_cfg t, I, J) Q := by
  obtain ⟨ts, te, tt, b1, b2, b3, b4, b5, b6⟩ := t
  · exact z_sound (f := false) (cuts := []) 300 28 [vr 805] [] (z_tab (ts, te, tt, b1, b2, b3, b4, b5, b6) ++ t_l (ts, te, tt, b1, b2, b3, b4, b5, b6), t_s (ts, te, tt, b1, b2, b3, b4, b5, b6), I, J) h
theorem c102 {w : zW} {K : zR → zW → Prop} (hd : 1 ≤ d) (h : ∀ d', d = d' + 1 → Go sc d' mt_102 0 [vr 805] [] w K) : Cl sc d 102 [vr 805] w K := Cl_of rfl hd h
/-! FerryHall$Reader takeWord (Ljava/lang/String;)Z -/
set_option maxRecDepth 8000 in
theorem b103_0 {wd : Nat} (h : Cl sc d 104 [vr 805, vr (wd + 1)] (z_cfg t, I, J) (z_k sc d mt_103 false 2 [vr 805, vr (wd + 1), vn] [] Q)) : Go sc d mt_103 0 [vr 805, vr (wd + 1), vn] [] (z_cfg t, I, J) Q := by
  obtain ⟨ts, te, tt, b1, b2, b3, b4, b5, b6⟩ := t
  · exact z_sound (f := false) (cuts := []) 300 0 [vr 805, vr (wd + 1), vn] [] (z_tab (ts, te, tt, b1, b2, b3, b4, b5, b6) ++ t_l (ts, te, tt, b1, b2, b3, b4, b5, b6), t_s (ts, te, tt, b1, b2, b3, b4, b5, b6), I, J) h
set_option maxRecDepth 8000 in
theorem b103_5 {wd : Nat} {s0 : Int} (h : (inR s0) ∧ ((s0 = 0 → (s0 = 0 ∨ s0 = 1) ∧ Q (.inl (some (vi s0))) (z_cfg t, I, J)) ∧ (¬ s0 = 0 → Cl sc d 98 [vr 805] (z_cfg t, I, J) (z_k sc d mt_103 false 11 [vr 805, vr (wd + 1), vi s0] [] Q)))) : Go sc d mt_103 5 [vr 805, vr (wd + 1), vn] [vi s0] (z_cfg t, I, J) Q := by
  obtain ⟨ts, te, tt, b1, b2, b3, b4, b5, b6⟩ := t
  · exact z_sound (f := false) (cuts := []) 300 5 [vr 805, vr (wd + 1), vn] [vi s0] (z_tab (ts, te, tt, b1, b2, b3, b4, b5, b6) ++ t_l (ts, te, tt, b1, b2, b3, b4, b5, b6), t_s (ts, te, tt, b1, b2, b3, b4, b5, b6), I, J) h
set_option maxRecDepth 8000 in
theorem b103_14 {wd : Nat} {x2 : Int} (h : (x2 = 0 ∨ x2 = 1) ∧ Q (.inl (some (vi x2))) (z_cfg t, I, J)) : Go sc d mt_103 14 [vr 805, vr (wd + 1), vi x2] [] (z_cfg t, I, J) Q := by
  obtain ⟨ts, te, tt, b1, b2, b3, b4, b5, b6⟩ := t
  · exact z_sound (f := false) (cuts := []) 300 14 [vr 805, vr (wd + 1), vi x2] [] (z_tab (ts, te, tt, b1, b2, b3, b4, b5, b6) ++ t_l (ts, te, tt, b1, b2, b3, b4, b5, b6), t_s (ts, te, tt, b1, b2, b3, b4, b5, b6), I, J) h
theorem c103 {wd : Nat} {w : zW} {K : zR → zW → Prop} (hd : 1 ≤ d) (h : ∀ d', d = d' + 1 → Go sc d' mt_103 0 [vr 805, vr (wd + 1), vn] [] w K) : Cl sc d 103 [vr 805, vr (wd + 1)] w K := Cl_of rfl hd h
/-! FerryHall$Reader isWord (Ljava/lang/String;)Z -/
set_option maxRecDepth 8000 in
theorem b104_0 {wd : Nat} (h : (inR (I 805 4)) ∧ ((I 805 4 = (1 : Int) → ((wd + 1) % 32 = 25 ∧ 1 ≤ (wd + 1) / 32 ∧ (wd + 1) / 32 ≤ 35) ∧ ((inR ((I 805 3) - (I 805 5))) ∧ ((inR ((m_sig (wd + 1)).length : Int)) ∧ (((I 805 3) - (I 805 5) = ((m_sig (wd + 1)).length : Int) → Go sc d mt_104 28 [vr 805, vr (wd + 1), vi 0] [] (z_cfg t, I, J) Q) ∧ (¬ (I 805 3) - (I 805 5) = ((m_sig (wd + 1)).length : Int) → Q (.inl (some (vi 0))) (z_cfg t, I, J)))))) ∧ (¬ I 805 4 = (1 : Int) → Q (.inl (some (vi 0))) (z_cfg t, I, J)))) : Go sc d mt_104 0 [vr 805, vr (wd + 1), vn] [] (z_cfg t, I, J) Q := by
  obtain ⟨ts, te, tt, b1, b2, b3, b4, b5, b6⟩ := t
  · exact z_sound (f := false) (cuts := [28]) 300 0 [vr 805, vr (wd + 1), vn] [] (z_tab (ts, te, tt, b1, b2, b3, b4, b5, b6) ++ t_l (ts, te, tt, b1, b2, b3, b4, b5, b6), t_s (ts, te, tt, b1, b2, b3, b4, b5, b6), I, J) (show (inR (I 805 4)) ∧ (inR 1) ∧ ((I 805 4 = (1 : Int) → ((wd + 1) % 32 = 25 ∧ 1 ≤ (wd + 1) / 32 ∧ (wd + 1) / 32 ≤ 35) ∧ (inR ((I 805 3) - (I 805 5))) ∧ (inR ((m_sig (wd + 1)).length : Int)) ∧ (((I 805 3) - (I 805 5) = ((m_sig (wd + 1)).length : Int) → Go sc d mt_104 28 [vr 805, vr (wd + 1), vi 0] [] (z_cfg (ts, te, tt, b1, b2, b3, b4, b5, b6), I, J) Q) ∧ (¬ (I 805 3) - (I 805 5) = ((m_sig (wd + 1)).length : Int) → ((0 : Int) = 0 ∨ (0 : Int) = 1) ∧ Q (.inl (some (vi 0))) (z_cfg (ts, te, tt, b1, b2, b3, b4, b5, b6), I, J)))) ∧ (¬ I 805 4 = (1 : Int) → ((0 : Int) = 0 ∨ (0 : Int) = 1) ∧ Q (.inl (some (vi 0))) (z_cfg (ts, te, tt, b1, b2, b3, b4, b5, b6), I, J))) from ⟨h.1, ⟨⟨by decide, by decide⟩, ⟨fun c0 => ⟨(h.2.1 c0).1, ⟨(h.2.1 c0).2.1, ⟨(h.2.1 c0).2.2.1, ⟨fun c1 => ((h.2.1 c0).2.2.2.1 c1), fun c1 => ⟨by decide, ((h.2.1 c0).2.2.2.2 c1)⟩⟩⟩⟩⟩, fun c0 => ⟨by decide, (h.2.2 c0)⟩⟩⟩⟩)
set_option maxRecDepth 8000 in
theorem b104_28 {wd : Nat} {x2 : Int} (h : ((wd + 1) % 32 = 25 ∧ 1 ≤ (wd + 1) / 32 ∧ (wd + 1) / 32 ≤ 35) ∧ ((inR x2) ∧ ((inR ((m_sig (wd + 1)).length : Int)) ∧ ((x2 < ((m_sig (wd + 1)).length : Int) → (inR ((I 805 5) + x2)) ∧ (((I 805 5) + x2 < (700 : Int) → (0 ≤ (I 805 5) + x2 ∧ (I 805 5) + x2 < 700) ∧ ((0 ≤ x2 ∧ x2 < ((m_sig (wd + 1)).length : Int) ∧ (m_sig (wd + 1)).length ≤ 60000) ∧ ((inR (I 85 ((I 805 5) + x2).toNat)) ∧ ((inR (((m_sig (wd + 1)).getD (x2).toNat 0 : Nat) : Int)) ∧ ((I 85 ((I 805 5) + x2).toNat = (((m_sig (wd + 1)).getD (x2).toNat 0 : Nat) : Int) → Go sc d mt_104 28 [vr 805, vr (wd + 1), vi (x2 + 1)] [] (z_cfg t, I, J) Q) ∧ (¬ I 85 ((I 805 5) + x2).toNat = (((m_sig (wd + 1)).getD (x2).toNat 0 : Nat) : Int) → Q (.inl (some (vi 0))) (z_cfg t, I, J))))))) ∧ (¬ (I 805 5) + x2 < (700 : Int) → Q (.inl (some (vi 1))) (z_cfg t, I, J)))) ∧ (¬ x2 < ((m_sig (wd + 1)).length : Int) → Q (.inl (some (vi 1))) (z_cfg t, I, J)))))) : Go sc d mt_104 28 [vr 805, vr (wd + 1), vi x2] [] (z_cfg t, I, J) Q := by
  obtain ⟨ts, te, tt, b1, b2, b3, b4, b5, b6⟩ := t
  · exact z_sound (f := false) (cuts := [28]) 300 28 [vr 805, vr (wd + 1), vi x2] [] (z_tab (ts, te, tt, b1, b2, b3, b4, b5, b6) ++ t_l (ts, te, tt, b1, b2, b3, b4, b5, b6), t_s (ts, te, tt, b1, b2, b3, b4, b5, b6), I, J) (show ((wd + 1) % 32 = 25 ∧ 1 ≤ (wd + 1) / 32 ∧ (wd + 1) / 32 ≤ 35) ∧ (inR x2) ∧ (inR ((m_sig (wd + 1)).length : Int)) ∧ ((x2 < ((m_sig (wd + 1)).length : Int) → (inR ((I 805 5) + x2)) ∧ (inR 700) ∧ (((I 805 5) + x2 < (700 : Int) → (0 ≤ (I 805 5) + x2 ∧ (I 805 5) + x2 < 700) ∧ ((wd + 1) % 32 = 25 ∧ 1 ≤ (wd + 1) / 32 ∧ (wd + 1) / 32 ≤ 35) ∧ (0 ≤ x2 ∧ x2 < ((m_sig (wd + 1)).length : Int) ∧ (m_sig (wd + 1)).length ≤ 60000) ∧ (inR (I 85 ((I 805 5) + x2).toNat)) ∧ (inR (((m_sig (wd + 1)).getD (x2).toNat 0 : Nat) : Int)) ∧ ((I 85 ((I 805 5) + x2).toNat = (((m_sig (wd + 1)).getD (x2).toNat 0 : Nat) : Int) → Go sc d mt_104 28 [vr 805, vr (wd + 1), vi (x2 + 1)] [] (z_cfg (ts, te, tt, b1, b2, b3, b4, b5, b6), I, J) Q) ∧ (¬ I 85 ((I 805 5) + x2).toNat = (((m_sig (wd + 1)).getD (x2).toNat 0 : Nat) : Int) → ((0 : Int) = 0 ∨ (0 : Int) = 1) ∧ Q (.inl (some (vi 0))) (z_cfg (ts, te, tt, b1, b2, b3, b4, b5, b6), I, J)))) ∧ (¬ (I 805 5) + x2 < (700 : Int) → ((1 : Int) = 0 ∨ (1 : Int) = 1) ∧ Q (.inl (some (vi 1))) (z_cfg (ts, te, tt, b1, b2, b3, b4, b5, b6), I, J)))) ∧ (¬ x2 < ((m_sig (wd + 1)).length : Int) → ((1 : Int) = 0 ∨ (1 : Int) = 1) ∧ Q (.inl (some (vi 1))) (z_cfg (ts, te, tt, b1, b2, b3, b4, b5, b6), I, J))) from ⟨h.1, ⟨h.2.1, ⟨h.2.2.1, ⟨fun c0 => ⟨(h.2.2.2.1 c0).1, ⟨⟨by decide, by decide⟩, ⟨fun c1 => ⟨((h.2.2.2.1 c0).2.1 c1).1, ⟨h.1, ⟨((h.2.2.2.1 c0).2.1 c1).2.1, ⟨((h.2.2.2.1 c0).2.1 c1).2.2.1, ⟨((h.2.2.2.1 c0).2.1 c1).2.2.2.1, ⟨fun c2 => (((h.2.2.2.1 c0).2.1 c1).2.2.2.2.1 c2), fun c2 => ⟨by decide, (((h.2.2.2.1 c0).2.1 c1).2.2.2.2.2 c2)⟩⟩⟩⟩⟩⟩⟩, fun c1 => ⟨by decide, ((h.2.2.2.1 c0).2.2 c1)⟩⟩⟩⟩, fun c0 => ⟨by decide, (h.2.2.2.2 c0)⟩⟩⟩⟩⟩)
theorem c104 {wd : Nat} {w : zW} {K : zR → zW → Prop} (hd : 1 ≤ d) (h : ∀ d', d = d' + 1 → Go sc d' mt_104 0 [vr 805, vr (wd + 1), vn] [] w K) : Cl sc d 104 [vr 805, vr (wd + 1)] w K := Cl_of rfl hd h
/-! FerryHall$Reader needNumber (II)I -/
set_option maxRecDepth 8000 in
theorem b105_0 {x1 x2 : Int} (h : (inR (I 805 4)) ∧ ((I 805 4 = (2 : Int) → (inR ((I 805 3) - (I 805 5))) ∧ (((3 : Int) < (I 805 3) - (I 805 5) → Go sc d mt_105 44 [vr 805, vi x1, vi x2, vn] [] (z_cfg t, I, J) Q) ∧ (¬ (3 : Int) < (I 805 3) - (I 805 5) → (inR (I 805 6)) ∧ ((inR x1) ∧ ((I 805 6 < x1 → Go sc d mt_105 44 [vr 805, vi x1, vi x2, vn] [] (z_cfg t, I, J) Q) ∧ (¬ I 805 6 < x1 → (inR x2) ∧ ((x2 < I 805 6 → Go sc d mt_105 44 [vr 805, vi x1, vi x2, vn] [] (z_cfg t, I, J) Q) ∧ (¬ x2 < I 805 6 → Cl sc d 98 [vr 805] (z_cfg t, I, J) (z_k sc d mt_105 false 57 [vr 805, vi x1, vi x2, vi (I 805 6)] [] Q))))))))) ∧ (¬ I 805 4 = (2 : Int) → Cl sc d 106 [vr 805, vi 1] (z_cfg t, I, J) (z_k sc d mt_105 false 10 [vr 805, vi x1, vi x2, vn] [] Q)))) : Go sc d mt_105 0 [vr 805, vi x1, vi x2, vn] [] (z_cfg t, I, J) Q := by
  obtain ⟨ts, te, tt, b1, b2, b3, b4, b5, b6⟩ := t
  · exact z_sound (f := false) (cuts := [44]) 300 0 [vr 805, vi x1, vi x2, vn] [] (z_tab (ts, te, tt, b1, b2, b3, b4, b5, b6) ++ t_l (ts, te, tt, b1, b2, b3, b4, b5, b6), t_s (ts, te, tt, b1, b2, b3, b4, b5, b6), I, J) (show (inR (I 805 4)) ∧ (inR 2) ∧ ((I 805 4 = (2 : Int) → (inR ((I 805 3) - (I 805 5))) ∧ (inR 3) ∧ (((3 : Int) < (I 805 3) - (I 805 5) → Go sc d mt_105 44 [vr 805, vi x1, vi x2, vn] [] (z_cfg (ts, te, tt, b1, b2, b3, b4, b5, b6), I, J) Q) ∧ (¬ (3 : Int) < (I 805 3) - (I 805 5) → (inR (I 805 6)) ∧ (inR x1) ∧ ((I 805 6 < x1 → Go sc d mt_105 44 [vr 805, vi x1, vi x2, vn] [] (z_cfg (ts, te, tt, b1, b2, b3, b4, b5, b6), I, J) Q) ∧ (¬ I 805 6 < x1 → (inR (I 805 6)) ∧ (inR x2) ∧ ((x2 < I 805 6 → Go sc d mt_105 44 [vr 805, vi x1, vi x2, vn] [] (z_cfg (ts, te, tt, b1, b2, b3, b4, b5, b6), I, J) Q) ∧ (¬ x2 < I 805 6 → Cl sc d 98 [vr 805] (z_cfg (ts, te, tt, b1, b2, b3, b4, b5, b6), I, J) (z_k sc d mt_105 false 57 [vr 805, vi x1, vi x2, vi (I 805 6)] [] Q)))))))) ∧ (¬ I 805 4 = (2 : Int) → Cl sc d 106 [vr 805, vi 1] (z_cfg (ts, te, tt, b1, b2, b3, b4, b5, b6), I, J) (z_k sc d mt_105 false 10 [vr 805, vi x1, vi x2, vn] [] Q))) from ⟨h.1, ⟨⟨by decide, by decide⟩, ⟨fun c0 => ⟨(h.2.1 c0).1, ⟨⟨by decide, by decide⟩, ⟨fun c1 => ((h.2.1 c0).2.1 c1), fun c1 => ⟨((h.2.1 c0).2.2 c1).1, ⟨((h.2.1 c0).2.2 c1).2.1, ⟨fun c2 => (((h.2.1 c0).2.2 c1).2.2.1 c2), fun c2 => ⟨((h.2.1 c0).2.2 c1).1, ⟨(((h.2.1 c0).2.2 c1).2.2.2 c2).1, ⟨fun c3 => ((((h.2.1 c0).2.2 c1).2.2.2 c2).2.1 c3), fun c3 => ((((h.2.1 c0).2.2 c1).2.2.2 c2).2.2 c3)⟩⟩⟩⟩⟩⟩⟩⟩⟩, fun c0 => (h.2.2 c0)⟩⟩⟩)
set_option maxRecDepth 8000 in
theorem b105_13 {x1 x2 : Int} (h : Q (.inl (some (vi x1))) (z_cfg t, I, J)) : Go sc d mt_105 13 [vr 805, vi x1, vi x2, vn] [] (z_cfg t, I, J) Q := by
  obtain ⟨ts, te, tt, b1, b2, b3, b4, b5, b6⟩ := t
  · exact z_sound (f := false) (cuts := [44]) 300 13 [vr 805, vi x1, vi x2, vn] [] (z_tab (ts, te, tt, b1, b2, b3, b4, b5, b6) ++ t_l (ts, te, tt, b1, b2, b3, b4, b5, b6), t_s (ts, te, tt, b1, b2, b3, b4, b5, b6), I, J) h
set_option maxRecDepth 8000 in
theorem b105_44 {x1 x2 : Int} (h : Cl sc d 106 [vr 805, vi 2] (z_cfg t, I, J) (z_k sc d mt_105 false 46 [vr 805, vi x1, vi x2, vn] [] Q)) : Go sc d mt_105 44 [vr 805, vi x1, vi x2, vn] [] (z_cfg t, I, J) Q := by
  obtain ⟨ts, te, tt, b1, b2, b3, b4, b5, b6⟩ := t
  · exact z_sound (f := false) (cuts := [44]) 300 44 [vr 805, vi x1, vi x2, vn] [] (z_tab (ts, te, tt, b1, b2, b3, b4, b5, b6) ++ t_l (ts, te, tt, b1, b2, b3, b4, b5, b6), t_s (ts, te, tt, b1, b2, b3, b4, b5, b6), I, J) h
set_option maxRecDepth 8000 in
theorem b105_49 {x1 x2 : Int} (h : Q (.inl (some (vi x1))) (z_cfg t, I, J)) : Go sc d mt_105 49 [vr 805, vi x1, vi x2, vn] [] (z_cfg t, I, J) Q := by
  obtain ⟨ts, te, tt, b1, b2, b3, b4, b5, b6⟩ := t
  · exact z_sound (f := false) (cuts := [44]) 300 49 [vr 805, vi x1, vi x2, vn] [] (z_tab (ts, te, tt, b1, b2, b3, b4, b5, b6) ++ t_l (ts, te, tt, b1, b2, b3, b4, b5, b6), t_s (ts, te, tt, b1, b2, b3, b4, b5, b6), I, J) h
set_option maxRecDepth 8000 in
theorem b105_60 {x1 x2 x3 : Int} (h : Q (.inl (some (vi x3))) (z_cfg t, I, J)) : Go sc d mt_105 60 [vr 805, vi x1, vi x2, vi x3] [] (z_cfg t, I, J) Q := by
  obtain ⟨ts, te, tt, b1, b2, b3, b4, b5, b6⟩ := t
  · exact z_sound (f := false) (cuts := [44]) 300 60 [vr 805, vi x1, vi x2, vi x3] [] (z_tab (ts, te, tt, b1, b2, b3, b4, b5, b6) ++ t_l (ts, te, tt, b1, b2, b3, b4, b5, b6), t_s (ts, te, tt, b1, b2, b3, b4, b5, b6), I, J) h
theorem c105 {x1 x2 : Int} {w : zW} {K : zR → zW → Prop} (hd : 1 ≤ d) (h : ∀ d', d = d' + 1 → Go sc d' mt_105 0 [vr 805, vi x1, vi x2, vn] [] w K) : Cl sc d 105 [vr 805, vi x1, vi x2] w K := Cl_of rfl hd h
/-! FerryHall$Reader fail (I)V -/
set_option maxRecDepth 8000 in
theorem b106_0 {x1 : Int} (h : (inR (I 805 7)) ∧ ((I 805 7 = 0 → Q (.inl none) (z_cfg t, z_u (z_u (z_u I 805 7 x1) 805 8 (I 805 5)) 805 4 4, J)) ∧ (¬ I 805 7 = 0 → Q (.inl none) (z_cfg t, I, J)))) : Go sc d mt_106 0 [vr 805, vi x1] [] (z_cfg t, I, J) Q := by
  obtain ⟨ts, te, tt, b1, b2, b3, b4, b5, b6⟩ := t
  · exact z_sound (f := false) (cuts := []) 300 0 [vr 805, vi x1] [] (z_tab (ts, te, tt, b1, b2, b3, b4, b5, b6) ++ t_l (ts, te, tt, b1, b2, b3, b4, b5, b6), t_s (ts, te, tt, b1, b2, b3, b4, b5, b6), I, J) h
theorem c106 {x1 : Int} {w : zW} {K : zR → zW → Prop} (hd : 1 ≤ d) (h : ∀ d', d = d' + 1 → Go sc d' mt_106 0 [vr 805, vi x1] [] w K) : Cl sc d 106 [vr 805, vi x1] w K := Cl_of rfl hd h
/-! FerryHall$Reader needSign (C)V -/
set_option maxRecDepth 8000 in
theorem b107_0 {x1 : Int} (h : Cl sc d 108 [vr 805, vi x1] (z_cfg t, I, J) (z_k sc d mt_107 false 2 [vr 805, vi x1] [] Q)) : Go sc d mt_107 0 [vr 805, vi x1] [] (z_cfg t, I, J) Q := by
  obtain ⟨ts, te, tt, b1, b2, b3, b4, b5, b6⟩ := t
  · exact z_sound (f := false) (cuts := []) 300 0 [vr 805, vi x1] [] (z_tab (ts, te, tt, b1, b2, b3, b4, b5, b6) ++ t_l (ts, te, tt, b1, b2, b3, b4, b5, b6), t_s (ts, te, tt, b1, b2, b3, b4, b5, b6), I, J) h
set_option maxRecDepth 8000 in
theorem b107_5 {x1 s0 : Int} (h : (inR s0) ∧ ((s0 = 0 → Cl sc d 106 [vr 805, vi 1] (z_cfg t, I, J) (z_k sc d mt_107 false 17 [vr 805, vi x1] [] Q)) ∧ (¬ s0 = 0 → Cl sc d 98 [vr 805] (z_cfg t, I, J) (z_k sc d mt_107 false 9 [vr 805, vi x1] [] Q)))) : Go sc d mt_107 5 [vr 805, vi x1] [vi s0] (z_cfg t, I, J) Q := by
  obtain ⟨ts, te, tt, b1, b2, b3, b4, b5, b6⟩ := t
  · exact z_sound (f := false) (cuts := []) 300 5 [vr 805, vi x1] [vi s0] (z_tab (ts, te, tt, b1, b2, b3, b4, b5, b6) ++ t_l (ts, te, tt, b1, b2, b3, b4, b5, b6), t_s (ts, te, tt, b1, b2, b3, b4, b5, b6), I, J) h
set_option maxRecDepth 8000 in
theorem b107_12 {x1 : Int} (h : Q (.inl none) (z_cfg t, I, J)) : Go sc d mt_107 12 [vr 805, vi x1] [] (z_cfg t, I, J) Q := by
  obtain ⟨ts, te, tt, b1, b2, b3, b4, b5, b6⟩ := t
  · exact z_sound (f := false) (cuts := []) 300 12 [vr 805, vi x1] [] (z_tab (ts, te, tt, b1, b2, b3, b4, b5, b6) ++ t_l (ts, te, tt, b1, b2, b3, b4, b5, b6), t_s (ts, te, tt, b1, b2, b3, b4, b5, b6), I, J) h
set_option maxRecDepth 8000 in
theorem b107_20 {x1 : Int} (h : Q (.inl none) (z_cfg t, I, J)) : Go sc d mt_107 20 [vr 805, vi x1] [] (z_cfg t, I, J) Q := by
  obtain ⟨ts, te, tt, b1, b2, b3, b4, b5, b6⟩ := t
  · exact z_sound (f := false) (cuts := []) 300 20 [vr 805, vi x1] [] (z_tab (ts, te, tt, b1, b2, b3, b4, b5, b6) ++ t_l (ts, te, tt, b1, b2, b3, b4, b5, b6), t_s (ts, te, tt, b1, b2, b3, b4, b5, b6), I, J) h
theorem c107 {x1 : Int} {w : zW} {K : zR → zW → Prop} (hd : 1 ≤ d) (h : ∀ d', d = d' + 1 → Go sc d' mt_107 0 [vr 805, vi x1] [] w K) : Cl sc d 107 [vr 805, vi x1] w K := Cl_of rfl hd h
/-! FerryHall$Reader isSign (C)Z -/
set_option maxRecDepth 8000 in
theorem b108_0 {x1 : Int} (h : (inR (I 805 4)) ∧ ((I 805 4 = (3 : Int) → (inR (I 805 5)) ∧ ((I 805 5 < (700 : Int) → (0 ≤ I 805 5 ∧ I 805 5 < 700) ∧ ((inR (I 85 (I 805 5).toNat)) ∧ ((inR x1) ∧ ((I 85 (I 805 5).toNat = x1 → Q (.inl (some (vi 1))) (z_cfg t, I, J)) ∧ (¬ I 85 (I 805 5).toNat = x1 → Q (.inl (some (vi 0))) (z_cfg t, I, J)))))) ∧ (¬ I 805 5 < (700 : Int) → Q (.inl (some (vi 0))) (z_cfg t, I, J)))) ∧ (¬ I 805 4 = (3 : Int) → Q (.inl (some (vi 0))) (z_cfg t, I, J)))) : Go sc d mt_108 0 [vr 805, vi x1] [] (z_cfg t, I, J) Q := by
  obtain ⟨ts, te, tt, b1, b2, b3, b4, b5, b6⟩ := t
  · exact z_sound (f := false) (cuts := []) 300 0 [vr 805, vi x1] [] (z_tab (ts, te, tt, b1, b2, b3, b4, b5, b6) ++ t_l (ts, te, tt, b1, b2, b3, b4, b5, b6), t_s (ts, te, tt, b1, b2, b3, b4, b5, b6), I, J) (show (inR (I 805 4)) ∧ (inR 3) ∧ ((I 805 4 = (3 : Int) → (inR (I 805 5)) ∧ (inR 700) ∧ ((I 805 5 < (700 : Int) → (0 ≤ I 805 5 ∧ I 805 5 < 700) ∧ (inR (I 85 (I 805 5).toNat)) ∧ (inR x1) ∧ ((I 85 (I 805 5).toNat = x1 → ((1 : Int) = 0 ∨ (1 : Int) = 1) ∧ Q (.inl (some (vi 1))) (z_cfg (ts, te, tt, b1, b2, b3, b4, b5, b6), I, J)) ∧ (¬ I 85 (I 805 5).toNat = x1 → ((0 : Int) = 0 ∨ (0 : Int) = 1) ∧ Q (.inl (some (vi 0))) (z_cfg (ts, te, tt, b1, b2, b3, b4, b5, b6), I, J)))) ∧ (¬ I 805 5 < (700 : Int) → ((0 : Int) = 0 ∨ (0 : Int) = 1) ∧ Q (.inl (some (vi 0))) (z_cfg (ts, te, tt, b1, b2, b3, b4, b5, b6), I, J)))) ∧ (¬ I 805 4 = (3 : Int) → ((0 : Int) = 0 ∨ (0 : Int) = 1) ∧ Q (.inl (some (vi 0))) (z_cfg (ts, te, tt, b1, b2, b3, b4, b5, b6), I, J))) from ⟨h.1, ⟨⟨by decide, by decide⟩, ⟨fun c0 => ⟨(h.2.1 c0).1, ⟨⟨by decide, by decide⟩, ⟨fun c1 => ⟨((h.2.1 c0).2.1 c1).1, ⟨((h.2.1 c0).2.1 c1).2.1, ⟨((h.2.1 c0).2.1 c1).2.2.1, ⟨fun c2 => ⟨by decide, (((h.2.1 c0).2.1 c1).2.2.2.1 c2)⟩, fun c2 => ⟨by decide, (((h.2.1 c0).2.1 c1).2.2.2.2 c2)⟩⟩⟩⟩⟩, fun c1 => ⟨by decide, ((h.2.1 c0).2.2 c1)⟩⟩⟩⟩, fun c0 => ⟨by decide, (h.2.2 c0)⟩⟩⟩⟩)
theorem c108 {x1 : Int} {w : zW} {K : zR → zW → Prop} (hd : 1 ≤ d) (h : ∀ d', d = d' + 1 → Go sc d' mt_108 0 [vr 805, vi x1] [] w K) : Cl sc d 108 [vr 805, vi x1] w K := Cl_of rfl hd h
/-! FerryHall$Reader readClause ()V -/
set_option maxRecDepth 8000 in
theorem b109_0 (h : Cl sc d 104 [vr 805, vr 537] (z_cfg t, I, J) (z_k sc d mt_109 false 3 [vr 805] [] Q)) : Go sc d mt_109 0 [vr 805] [] (z_cfg t, I, J) Q := by
  obtain ⟨ts, te, tt, b1, b2, b3, b4, b5, b6⟩ := t
  · exact z_sound (f := false) (cuts := [103]) 300 0 [vr 805] [] (z_tab (ts, te, tt, b1, b2, b3, b4, b5, b6) ++ t_l (ts, te, tt, b1, b2, b3, b4, b5, b6), t_s (ts, te, tt, b1, b2, b3, b4, b5, b6), I, J) h
set_option maxRecDepth 8000 in
theorem b109_6 {s0 : Int} (h : (inR s0) ∧ ((s0 = 0 → Cl sc d 104 [vr 805, vr 569] (z_cfg t, I, J) (z_k sc d mt_109 false 19 [vr 805] [] Q)) ∧ (¬ s0 = 0 → Cl sc d 110 [vr 805] (z_cfg t, I, J) (z_k sc d mt_109 false 10 [vr 805] [] Q)))) : Go sc d mt_109 6 [vr 805] [vi s0] (z_cfg t, I, J) Q := by
  obtain ⟨ts, te, tt, b1, b2, b3, b4, b5, b6⟩ := t
  · exact z_sound (f := false) (cuts := [103]) 300 6 [vr 805] [vi s0] (z_tab (ts, te, tt, b1, b2, b3, b4, b5, b6) ++ t_l (ts, te, tt, b1, b2, b3, b4, b5, b6), t_s (ts, te, tt, b1, b2, b3, b4, b5, b6), I, J) h
set_option maxRecDepth 8000 in
theorem b109_13 (h : Go sc d mt_109 103 [vr 805] [] (z_cfg t, I, J) Q) : Go sc d mt_109 13 [vr 805] [] (z_cfg t, I, J) Q := by
  obtain ⟨ts, te, tt, b1, b2, b3, b4, b5, b6⟩ := t
  · exact z_sound (f := false) (cuts := [103]) 300 13 [vr 805] [] (z_tab (ts, te, tt, b1, b2, b3, b4, b5, b6) ++ t_l (ts, te, tt, b1, b2, b3, b4, b5, b6), t_s (ts, te, tt, b1, b2, b3, b4, b5, b6), I, J) h
set_option maxRecDepth 8000 in
theorem b109_22 {s0 : Int} (h : (inR s0) ∧ ((s0 = 0 → Cl sc d 104 [vr 805, vr 601] (z_cfg t, I, J) (z_k sc d mt_109 false 35 [vr 805] [] Q)) ∧ (¬ s0 = 0 → Cl sc d 115 [vr 805] (z_cfg t, I, J) (z_k sc d mt_109 false 26 [vr 805] [] Q)))) : Go sc d mt_109 22 [vr 805] [vi s0] (z_cfg t, I, J) Q := by
  obtain ⟨ts, te, tt, b1, b2, b3, b4, b5, b6⟩ := t
  · exact z_sound (f := false) (cuts := [103]) 300 22 [vr 805] [vi s0] (z_tab (ts, te, tt, b1, b2, b3, b4, b5, b6) ++ t_l (ts, te, tt, b1, b2, b3, b4, b5, b6), t_s (ts, te, tt, b1, b2, b3, b4, b5, b6), I, J) h
set_option maxRecDepth 8000 in
theorem b109_29 (h : Go sc d mt_109 103 [vr 805] [] (z_cfg t, I, J) Q) : Go sc d mt_109 29 [vr 805] [] (z_cfg t, I, J) Q := by
  obtain ⟨ts, te, tt, b1, b2, b3, b4, b5, b6⟩ := t
  · exact z_sound (f := false) (cuts := [103]) 300 29 [vr 805] [] (z_tab (ts, te, tt, b1, b2, b3, b4, b5, b6) ++ t_l (ts, te, tt, b1, b2, b3, b4, b5, b6), t_s (ts, te, tt, b1, b2, b3, b4, b5, b6), I, J) h
set_option maxRecDepth 8000 in
theorem b109_38 {s0 : Int} (h : (inR s0) ∧ ((s0 = 0 → Cl sc d 104 [vr 805, vr 633] (z_cfg t, I, J) (z_k sc d mt_109 false 52 [vr 805] [] Q)) ∧ (¬ s0 = 0 → Cl sc d 117 [vr 805, vi 1] (z_cfg t, I, J) (z_k sc d mt_109 false 43 [vr 805] [] Q)))) : Go sc d mt_109 38 [vr 805] [vi s0] (z_cfg t, I, J) Q := by
  obtain ⟨ts, te, tt, b1, b2, b3, b4, b5, b6⟩ := t
  · exact z_sound (f := false) (cuts := [103]) 300 38 [vr 805] [vi s0] (z_tab (ts, te, tt, b1, b2, b3, b4, b5, b6) ++ t_l (ts, te, tt, b1, b2, b3, b4, b5, b6), t_s (ts, te, tt, b1, b2, b3, b4, b5, b6), I, J) h
set_option maxRecDepth 8000 in
theorem b109_46 (h : Go sc d mt_109 103 [vr 805] [] (z_cfg t, I, J) Q) : Go sc d mt_109 46 [vr 805] [] (z_cfg t, I, J) Q := by
  obtain ⟨ts, te, tt, b1, b2, b3, b4, b5, b6⟩ := t
  · exact z_sound (f := false) (cuts := [103]) 300 46 [vr 805] [] (z_tab (ts, te, tt, b1, b2, b3, b4, b5, b6) ++ t_l (ts, te, tt, b1, b2, b3, b4, b5, b6), t_s (ts, te, tt, b1, b2, b3, b4, b5, b6), I, J) h
set_option maxRecDepth 8000 in
theorem b109_55 {s0 : Int} (h : (inR s0) ∧ ((s0 = 0 → Cl sc d 104 [vr 805, vr 665] (z_cfg t, I, J) (z_k sc d mt_109 false 69 [vr 805] [] Q)) ∧ (¬ s0 = 0 → Cl sc d 117 [vr 805, vi 0] (z_cfg t, I, J) (z_k sc d mt_109 false 60 [vr 805] [] Q)))) : Go sc d mt_109 55 [vr 805] [vi s0] (z_cfg t, I, J) Q := by
  obtain ⟨ts, te, tt, b1, b2, b3, b4, b5, b6⟩ := t
  · exact z_sound (f := false) (cuts := [103]) 300 55 [vr 805] [vi s0] (z_tab (ts, te, tt, b1, b2, b3, b4, b5, b6) ++ t_l (ts, te, tt, b1, b2, b3, b4, b5, b6), t_s (ts, te, tt, b1, b2, b3, b4, b5, b6), I, J) h
set_option maxRecDepth 8000 in
theorem b109_63 (h : Go sc d mt_109 103 [vr 805] [] (z_cfg t, I, J) Q) : Go sc d mt_109 63 [vr 805] [] (z_cfg t, I, J) Q := by
  obtain ⟨ts, te, tt, b1, b2, b3, b4, b5, b6⟩ := t
  · exact z_sound (f := false) (cuts := [103]) 300 63 [vr 805] [] (z_tab (ts, te, tt, b1, b2, b3, b4, b5, b6) ++ t_l (ts, te, tt, b1, b2, b3, b4, b5, b6), t_s (ts, te, tt, b1, b2, b3, b4, b5, b6), I, J) h
set_option maxRecDepth 8000 in
theorem b109_72 {s0 : Int} (h : (inR s0) ∧ ((s0 = 0 → Cl sc d 104 [vr 805, vr 697] (z_cfg t, I, J) (z_k sc d mt_109 false 85 [vr 805] [] Q)) ∧ (¬ s0 = 0 → Cl sc d 118 [vr 805] (z_cfg t, I, J) (z_k sc d mt_109 false 76 [vr 805] [] Q)))) : Go sc d mt_109 72 [vr 805] [vi s0] (z_cfg t, I, J) Q := by
  obtain ⟨ts, te, tt, b1, b2, b3, b4, b5, b6⟩ := t
  · exact z_sound (f := false) (cuts := [103]) 300 72 [vr 805] [vi s0] (z_tab (ts, te, tt, b1, b2, b3, b4, b5, b6) ++ t_l (ts, te, tt, b1, b2, b3, b4, b5, b6), t_s (ts, te, tt, b1, b2, b3, b4, b5, b6), I, J) h
set_option maxRecDepth 8000 in
theorem b109_79 (h : Go sc d mt_109 103 [vr 805] [] (z_cfg t, I, J) Q) : Go sc d mt_109 79 [vr 805] [] (z_cfg t, I, J) Q := by
  obtain ⟨ts, te, tt, b1, b2, b3, b4, b5, b6⟩ := t
  · exact z_sound (f := false) (cuts := [103]) 300 79 [vr 805] [] (z_tab (ts, te, tt, b1, b2, b3, b4, b5, b6) ++ t_l (ts, te, tt, b1, b2, b3, b4, b5, b6), t_s (ts, te, tt, b1, b2, b3, b4, b5, b6), I, J) h
set_option maxRecDepth 8000 in
theorem b109_88 {s0 : Int} (h : (inR s0) ∧ ((s0 = 0 → Cl sc d 106 [vr 805, vi 1] (z_cfg t, I, J) (z_k sc d mt_109 false 100 [vr 805] [] Q)) ∧ (¬ s0 = 0 → Cl sc d 119 [vr 805] (z_cfg t, I, J) (z_k sc d mt_109 false 92 [vr 805] [] Q)))) : Go sc d mt_109 88 [vr 805] [vi s0] (z_cfg t, I, J) Q := by
  obtain ⟨ts, te, tt, b1, b2, b3, b4, b5, b6⟩ := t
  · exact z_sound (f := false) (cuts := [103]) 300 88 [vr 805] [vi s0] (z_tab (ts, te, tt, b1, b2, b3, b4, b5, b6) ++ t_l (ts, te, tt, b1, b2, b3, b4, b5, b6), t_s (ts, te, tt, b1, b2, b3, b4, b5, b6), I, J) h
set_option maxRecDepth 8000 in
theorem b109_95 (h : Go sc d mt_109 103 [vr 805] [] (z_cfg t, I, J) Q) : Go sc d mt_109 95 [vr 805] [] (z_cfg t, I, J) Q := by
  obtain ⟨ts, te, tt, b1, b2, b3, b4, b5, b6⟩ := t
  · exact z_sound (f := false) (cuts := [103]) 300 95 [vr 805] [] (z_tab (ts, te, tt, b1, b2, b3, b4, b5, b6) ++ t_l (ts, te, tt, b1, b2, b3, b4, b5, b6), t_s (ts, te, tt, b1, b2, b3, b4, b5, b6), I, J) h
set_option maxRecDepth 8000 in
theorem b109_103 (h : Cl sc d 107 [vr 805, vi 59] (z_cfg t, I, J) (z_k sc d mt_109 false 106 [vr 805] [] Q)) : Go sc d mt_109 103 [vr 805] [] (z_cfg t, I, J) Q := by
  obtain ⟨ts, te, tt, b1, b2, b3, b4, b5, b6⟩ := t
  · exact z_sound (f := false) (cuts := [103]) 300 103 [vr 805] [] (z_tab (ts, te, tt, b1, b2, b3, b4, b5, b6) ++ t_l (ts, te, tt, b1, b2, b3, b4, b5, b6), t_s (ts, te, tt, b1, b2, b3, b4, b5, b6), I, J) h
set_option maxRecDepth 8000 in
theorem b109_109 (h : Q (.inl none) (z_cfg t, I, J)) : Go sc d mt_109 109 [vr 805] [] (z_cfg t, I, J) Q := by
  obtain ⟨ts, te, tt, b1, b2, b3, b4, b5, b6⟩ := t
  · exact z_sound (f := false) (cuts := [103]) 300 109 [vr 805] [] (z_tab (ts, te, tt, b1, b2, b3, b4, b5, b6) ++ t_l (ts, te, tt, b1, b2, b3, b4, b5, b6), t_s (ts, te, tt, b1, b2, b3, b4, b5, b6), I, J) h
theorem c109 {w : zW} {K : zR → zW → Prop} (hd : 1 ≤ d) (h : ∀ d', d = d' + 1 → Go sc d' mt_109 0 [vr 805] [] w K) : Cl sc d 109 [vr 805] w K := Cl_of rfl hd h
/-! FerryHall$Reader readThing ()V -/
set_option maxRecDepth 8000 in
theorem b110_0 (h : (inR (I (z_md (t_eb t)) 1)) ∧ ((I (z_md (t_eb t)) 1 < 0 → Go sc d mt_110 18 [vr 805, vi (I (z_md (t_eb t)) 1), vn, vn, vn] [] (z_cfg t, I, J) Q) ∧ (¬ I (z_md (t_eb t)) 1 < 0 → (I (z_md (t_eb t)) 1 < (8 : Int) → Cl sc d 98 [vr 805] (z_cfg t, I, J) (z_k sc d mt_110 false 25 [vr 805, vi (I (z_md (t_eb t)) 1), vn, vn, vn] [] Q)) ∧ (¬ I (z_md (t_eb t)) 1 < (8 : Int) → Go sc d mt_110 18 [vr 805, vi (I (z_md (t_eb t)) 1), vn, vn, vn] [] (z_cfg t, I, J) Q)))) : Go sc d mt_110 0 [vr 805, vn, vn, vn, vn] [] (z_cfg t, I, J) Q := by
  obtain ⟨ts, te, tt, b1, b2, b3, b4, b5, b6⟩ := t
  cases b6
  · exact z_sound (f := false) (cuts := [18, 67]) 300 0 [vr 805, vn, vn, vn, vn] [] (z_tab (ts, te, tt, b1, b2, b3, b4, b5, false) ++ t_l (ts, te, tt, b1, b2, b3, b4, b5, false), t_s (ts, te, tt, b1, b2, b3, b4, b5, false), I, J) (show (inR (I (z_md (false)) 1)) ∧ ((I (z_md (false)) 1 < 0 → Go sc d mt_110 18 [vr 805, vi (I (z_md (false)) 1), vn, vn, vn] [] (z_cfg (ts, te, tt, b1, b2, b3, b4, b5, false), I, J) Q) ∧ (¬ I (z_md (false)) 1 < 0 → (inR (I (z_md (false)) 1)) ∧ (inR 8) ∧ ((I (z_md (false)) 1 < (8 : Int) → Cl sc d 98 [vr 805] (z_cfg (ts, te, tt, b1, b2, b3, b4, b5, false), I, J) (z_k sc d mt_110 false 25 [vr 805, vi (I (z_md (false)) 1), vn, vn, vn] [] Q)) ∧ (¬ I (z_md (false)) 1 < (8 : Int) → Go sc d mt_110 18 [vr 805, vi (I (z_md (false)) 1), vn, vn, vn] [] (z_cfg (ts, te, tt, b1, b2, b3, b4, b5, false), I, J) Q)))) from ⟨h.1, ⟨fun c0 => (h.2.1 c0), fun c0 => ⟨h.1, ⟨⟨by decide, by decide⟩, ⟨fun c1 => ((h.2.2 c0).1 c1), fun c1 => ((h.2.2 c0).2 c1)⟩⟩⟩⟩⟩)
  · exact z_sound (f := false) (cuts := [18, 67]) 300 0 [vr 805, vn, vn, vn, vn] [] (z_tab (ts, te, tt, b1, b2, b3, b4, b5, true) ++ t_l (ts, te, tt, b1, b2, b3, b4, b5, true), t_s (ts, te, tt, b1, b2, b3, b4, b5, true), I, J) (show (inR (I (z_md (true)) 1)) ∧ ((I (z_md (true)) 1 < 0 → Go sc d mt_110 18 [vr 805, vi (I (z_md (true)) 1), vn, vn, vn] [] (z_cfg (ts, te, tt, b1, b2, b3, b4, b5, true), I, J) Q) ∧ (¬ I (z_md (true)) 1 < 0 → (inR (I (z_md (true)) 1)) ∧ (inR 8) ∧ ((I (z_md (true)) 1 < (8 : Int) → Cl sc d 98 [vr 805] (z_cfg (ts, te, tt, b1, b2, b3, b4, b5, true), I, J) (z_k sc d mt_110 false 25 [vr 805, vi (I (z_md (true)) 1), vn, vn, vn] [] Q)) ∧ (¬ I (z_md (true)) 1 < (8 : Int) → Go sc d mt_110 18 [vr 805, vi (I (z_md (true)) 1), vn, vn, vn] [] (z_cfg (ts, te, tt, b1, b2, b3, b4, b5, true), I, J) Q)))) from ⟨h.1, ⟨fun c0 => (h.2.1 c0), fun c0 => ⟨h.1, ⟨⟨by decide, by decide⟩, ⟨fun c1 => ((h.2.2 c0).1 c1), fun c1 => ((h.2.2 c0).2 c1)⟩⟩⟩⟩⟩)
set_option maxRecDepth 8000 in
theorem b110_18 {x1 : Int} (h : Cl sc d 106 [vr 805, vi 2] (z_cfg t, I, J) (z_k sc d mt_110 false 20 [vr 805, vi x1, vn, vn, vn] [] Q)) : Go sc d mt_110 18 [vr 805, vi x1, vn, vn, vn] [] (z_cfg t, I, J) Q := by
  obtain ⟨ts, te, tt, b1, b2, b3, b4, b5, b6⟩ := t
  · exact z_sound (f := false) (cuts := [18, 67]) 300 18 [vr 805, vi x1, vn, vn, vn] [] (z_tab (ts, te, tt, b1, b2, b3, b4, b5, b6) ++ t_l (ts, te, tt, b1, b2, b3, b4, b5, b6), t_s (ts, te, tt, b1, b2, b3, b4, b5, b6), I, J) h
set_option maxRecDepth 8000 in
theorem b110_23 {x1 : Int} (h : Q (.inl none) (z_cfg t, I, J)) : Go sc d mt_110 23 [vr 805, vi x1, vn, vn, vn] [] (z_cfg t, I, J) Q := by
  obtain ⟨ts, te, tt, b1, b2, b3, b4, b5, b6⟩ := t
  · exact z_sound (f := false) (cuts := [18, 67]) 300 23 [vr 805, vi x1, vn, vn, vn] [] (z_tab (ts, te, tt, b1, b2, b3, b4, b5, b6) ++ t_l (ts, te, tt, b1, b2, b3, b4, b5, b6), t_s (ts, te, tt, b1, b2, b3, b4, b5, b6), I, J) h
set_option maxRecDepth 8000 in
theorem b110_28 {x1 : Int} (h : Cl sc d 111 [vr 805] (z_cfg t, I, J) (z_k sc d mt_110 false 29 [vr 805, vi x1, vn, vn, vn] [] Q)) : Go sc d mt_110 28 [vr 805, vi x1, vn, vn, vn] [] (z_cfg t, I, J) Q := by
  obtain ⟨ts, te, tt, b1, b2, b3, b4, b5, b6⟩ := t
  · exact z_sound (f := false) (cuts := [18, 67]) 300 28 [vr 805, vi x1, vn, vn, vn] [] (z_tab (ts, te, tt, b1, b2, b3, b4, b5, b6) ++ t_l (ts, te, tt, b1, b2, b3, b4, b5, b6), t_s (ts, te, tt, b1, b2, b3, b4, b5, b6), I, J) h
set_option maxRecDepth 8000 in
theorem b110_32 {x1 s0 : Int} (h : Cl sc d 114 [vr 805, vr 729] (z_cfg t, I, J) (z_k sc d mt_110 false 36 [vr 805, vi x1, vi s0, vn, vn] [] Q)) : Go sc d mt_110 32 [vr 805, vi x1, vn, vn, vn] [vi s0] (z_cfg t, I, J) Q := by
  obtain ⟨ts, te, tt, b1, b2, b3, b4, b5, b6⟩ := t
  · exact z_sound (f := false) (cuts := [18, 67]) 300 32 [vr 805, vi x1, vn, vn, vn] [vi s0] (z_tab (ts, te, tt, b1, b2, b3, b4, b5, b6) ++ t_l (ts, te, tt, b1, b2, b3, b4, b5, b6), t_s (ts, te, tt, b1, b2, b3, b4, b5, b6), I, J) h
set_option maxRecDepth 8000 in
theorem b110_39 {x1 x2 : Int} (h : Cl sc d 105 [vr 805, vi 0, vi 99] (z_cfg t, I, J) (z_k sc d mt_110 false 43 [vr 805, vi x1, vi x2, vn, vn] [] Q)) : Go sc d mt_110 39 [vr 805, vi x1, vi x2, vn, vn] [] (z_cfg t, I, J) Q := by
  obtain ⟨ts, te, tt, b1, b2, b3, b4, b5, b6⟩ := t
  · exact z_sound (f := false) (cuts := [18, 67]) 300 39 [vr 805, vi x1, vi x2, vn, vn] [] (z_tab (ts, te, tt, b1, b2, b3, b4, b5, b6) ++ t_l (ts, te, tt, b1, b2, b3, b4, b5, b6), t_s (ts, te, tt, b1, b2, b3, b4, b5, b6), I, J) h
set_option maxRecDepth 8000 in
theorem b110_46 {x1 x2 s0 : Int} (h : Cl sc d 103 [vr 805, vr 761] (z_cfg t, I, J) (z_k sc d mt_110 false 50 [vr 805, vi x1, vi x2, vi s0, vn] [] Q)) : Go sc d mt_110 46 [vr 805, vi x1, vi x2, vn, vn] [vi s0] (z_cfg t, I, J) Q := by
  obtain ⟨ts, te, tt, b1, b2, b3, b4, b5, b6⟩ := t
  · exact z_sound (f := false) (cuts := [18, 67]) 300 46 [vr 805, vi x1, vi x2, vn, vn] [vi s0] (z_tab (ts, te, tt, b1, b2, b3, b4, b5, b6) ++ t_l (ts, te, tt, b1, b2, b3, b4, b5, b6), t_s (ts, te, tt, b1, b2, b3, b4, b5, b6), I, J) h
set_option maxRecDepth 8000 in
theorem b110_53 {x1 x2 x3 s0 : Int} (h : (inR s0) ∧ ((s0 = 0 → Go sc d mt_110 67 [vr 805, vi x1, vi x2, vi x3, vn] [vi 0] (z_cfg t, I, J) Q) ∧ (¬ s0 = 0 → Cl sc d 105 [vr 805, vi 1, vi 99] (z_cfg t, I, J) (z_k sc d mt_110 false 60 [vr 805, vi x1, vi x2, vi x3, vn] [] Q)))) : Go sc d mt_110 53 [vr 805, vi x1, vi x2, vi x3, vn] [vi s0] (z_cfg t, I, J) Q := by
  obtain ⟨ts, te, tt, b1, b2, b3, b4, b5, b6⟩ := t
  · exact z_sound (f := false) (cuts := [18, 67]) 300 53 [vr 805, vi x1, vi x2, vi x3, vn] [vi s0] (z_tab (ts, te, tt, b1, b2, b3, b4, b5, b6) ++ t_l (ts, te, tt, b1, b2, b3, b4, b5, b6), t_s (ts, te, tt, b1, b2, b3, b4, b5, b6), I, J) h
set_option maxRecDepth 8000 in
theorem b110_63 {x1 x2 x3 s0 : Int} (h : Go sc d mt_110 67 [vr 805, vi x1, vi x2, vi x3, vn] [vi s0] (z_cfg t, I, J) Q) : Go sc d mt_110 63 [vr 805, vi x1, vi x2, vi x3, vn] [vi s0] (z_cfg t, I, J) Q := by
  obtain ⟨ts, te, tt, b1, b2, b3, b4, b5, b6⟩ := t
  · exact z_sound (f := false) (cuts := [18, 67]) 300 63 [vr 805, vi x1, vi x2, vi x3, vn] [vi s0] (z_tab (ts, te, tt, b1, b2, b3, b4, b5, b6) ++ t_l (ts, te, tt, b1, b2, b3, b4, b5, b6), t_s (ts, te, tt, b1, b2, b3, b4, b5, b6), I, J) h
set_option maxRecDepth 8000 in
theorem b110_67 {x1 x2 x3 s0 : Int} (h : (0 ≤ x1 ∧ x1 < 8) ∧ (Q (.inl none) (z_cfg t, z_u (z_u (z_u (z_u I (z_mf (t_eb t) 4) (x1).toNat x2) (z_mf (t_eb t) 2) (x1).toNat x3) (z_mf (t_eb t) 3) (x1).toNat s0) (z_md (t_eb t)) 1 (x1 + 1), J))) : Go sc d mt_110 67 [vr 805, vi x1, vi x2, vi x3, vn] [vi s0] (z_cfg t, I, J) Q := by
  obtain ⟨ts, te, tt, b1, b2, b3, b4, b5, b6⟩ := t
  cases b6
  · exact z_sound (f := false) (cuts := [18, 67]) 300 67 [vr 805, vi x1, vi x2, vi x3, vn] [vi s0] (z_tab (ts, te, tt, b1, b2, b3, b4, b5, false) ++ t_l (ts, te, tt, b1, b2, b3, b4, b5, false), t_s (ts, te, tt, b1, b2, b3, b4, b5, false), I, J) (show (0 ≤ x1 ∧ x1 < 8) ∧ (0 ≤ x1 ∧ x1 < 8) ∧ (0 ≤ x1 ∧ x1 < 8) ∧ Q (.inl none) (z_cfg (ts, te, tt, b1, b2, b3, b4, b5, false), z_u (z_u (z_u (z_u I (z_mf (false) 4) (x1).toNat x2) (z_mf (false) 2) (x1).toNat x3) (z_mf (false) 3) (x1).toNat s0) (z_md (false)) 1 (x1 + 1), J) from ⟨h.1, ⟨h.1, ⟨h.1, h.2⟩⟩⟩)
  · exact z_sound (f := false) (cuts := [18, 67]) 300 67 [vr 805, vi x1, vi x2, vi x3, vn] [vi s0] (z_tab (ts, te, tt, b1, b2, b3, b4, b5, true) ++ t_l (ts, te, tt, b1, b2, b3, b4, b5, true), t_s (ts, te, tt, b1, b2, b3, b4, b5, true), I, J) (show (0 ≤ x1 ∧ x1 < 8) ∧ (0 ≤ x1 ∧ x1 < 8) ∧ (0 ≤ x1 ∧ x1 < 8) ∧ Q (.inl none) (z_cfg (ts, te, tt, b1, b2, b3, b4, b5, true), z_u (z_u (z_u (z_u I (z_mf (true) 4) (x1).toNat x2) (z_mf (true) 2) (x1).toNat x3) (z_mf (true) 3) (x1).toNat s0) (z_md (true)) 1 (x1 + 1), J) from ⟨h.1, ⟨h.1, ⟨h.1, h.2⟩⟩⟩)
theorem c110 {w : zW} {K : zR → zW → Prop} (hd : 1 ≤ d) (h : ∀ d', d = d' + 1 → Go sc d' mt_110 0 [vr 805, vn, vn, vn, vn] [] w K) : Cl sc d 110 [vr 805] w K := Cl_of rfl hd h
/-! FerryHall$Reader needNewName ()I -/
set_option maxRecDepth 8000 in
theorem b111_0 (h : Cl sc d 112 [vr 805] (z_cfg t, I, J) (z_k sc d mt_111 false 1 [vr 805, vn] [] Q)) : Go sc d mt_111 0 [vr 805, vn] [] (z_cfg t, I, J) Q := by
  obtain ⟨ts, te, tt, b1, b2, b3, b4, b5, b6⟩ := t
  · exact z_sound (f := false) (cuts := [19]) 300 0 [vr 805, vn] [] (z_tab (ts, te, tt, b1, b2, b3, b4, b5, b6) ++ t_l (ts, te, tt, b1, b2, b3, b4, b5, b6), t_s (ts, te, tt, b1, b2, b3, b4, b5, b6), I, J) h
set_option maxRecDepth 8000 in
theorem b111_4 {s0 : Int} (h : (inR s0) ∧ ((s0 = 0 → Go sc d mt_111 19 [vr 805, vn] [] (z_cfg t, I, J) Q) ∧ (¬ s0 = 0 → (inR (I 805 5)) ∧ ((I 805 5 < (700 : Int) → (0 ≤ I 805 5 ∧ I 805 5 < 700) ∧ Cl sc d 113 [vr 805, vi (I 85 (I 805 5).toNat)] (z_cfg t, I, J) (z_k sc d mt_111 false 38 [vr 805, vi (I 85 (I 805 5).toNat)] [] Q)) ∧ (¬ I 805 5 < (700 : Int) → Go sc d mt_111 19 [vr 805, vn] [] (z_cfg t, I, J) Q))))) : Go sc d mt_111 4 [vr 805, vn] [vi s0] (z_cfg t, I, J) Q := by
  obtain ⟨ts, te, tt, b1, b2, b3, b4, b5, b6⟩ := t
  · exact z_sound (f := false) (cuts := [19]) 300 4 [vr 805, vn] [vi s0] (z_tab (ts, te, tt, b1, b2, b3, b4, b5, b6) ++ t_l (ts, te, tt, b1, b2, b3, b4, b5, b6), t_s (ts, te, tt, b1, b2, b3, b4, b5, b6), I, J) (show (inR s0) ∧ ((s0 = 0 → Go sc d mt_111 19 [vr 805, vn] [] (z_cfg (ts, te, tt, b1, b2, b3, b4, b5, b6), I, J) Q) ∧ (¬ s0 = 0 → (inR (I 805 5)) ∧ (inR 700) ∧ ((I 805 5 < (700 : Int) → (0 ≤ I 805 5 ∧ I 805 5 < 700) ∧ Cl sc d 113 [vr 805, vi (I 85 (I 805 5).toNat)] (z_cfg (ts, te, tt, b1, b2, b3, b4, b5, b6), I, J) (z_k sc d mt_111 false 38 [vr 805, vi (I 85 (I 805 5).toNat)] [] Q)) ∧ (¬ I 805 5 < (700 : Int) → Go sc d mt_111 19 [vr 805, vn] [] (z_cfg (ts, te, tt, b1, b2, b3, b4, b5, b6), I, J) Q)))) from ⟨h.1, ⟨fun c0 => (h.2.1 c0), fun c0 => ⟨(h.2.2 c0).1, ⟨⟨by decide, by decide⟩, ⟨fun c1 => ⟨((h.2.2 c0).2.1 c1).1, ((h.2.2 c0).2.1 c1).2⟩, fun c1 => ((h.2.2 c0).2.2 c1)⟩⟩⟩⟩⟩)
set_option maxRecDepth 8000 in
theorem b111_19 (h : Cl sc d 106 [vr 805, vi 1] (z_cfg t, I, J) (z_k sc d mt_111 false 21 [vr 805, vn] [] Q)) : Go sc d mt_111 19 [vr 805, vn] [] (z_cfg t, I, J) Q := by
  obtain ⟨ts, te, tt, b1, b2, b3, b4, b5, b6⟩ := t
  · exact z_sound (f := false) (cuts := [19]) 300 19 [vr 805, vn] [] (z_tab (ts, te, tt, b1, b2, b3, b4, b5, b6) ++ t_l (ts, te, tt, b1, b2, b3, b4, b5, b6), t_s (ts, te, tt, b1, b2, b3, b4, b5, b6), I, J) h
set_option maxRecDepth 8000 in
theorem b111_24 (h : Q (.inl (some (vi 0))) (z_cfg t, I, J)) : Go sc d mt_111 24 [vr 805, vn] [] (z_cfg t, I, J) Q := by
  obtain ⟨ts, te, tt, b1, b2, b3, b4, b5, b6⟩ := t
  · exact z_sound (f := false) (cuts := [19]) 300 24 [vr 805, vn] [] (z_tab (ts, te, tt, b1, b2, b3, b4, b5, b6) ++ t_l (ts, te, tt, b1, b2, b3, b4, b5, b6), t_s (ts, te, tt, b1, b2, b3, b4, b5, b6), I, J) h
set_option maxRecDepth 8000 in
theorem b111_41 {x1 s0 : Int} (h : (inR s0) ∧ ((s0 = ((-1) : Int) → Cl sc d 98 [vr 805] (z_cfg t, I, J) (z_k sc d mt_111 false 53 [vr 805, vi x1] [] Q)) ∧ (¬ s0 = ((-1) : Int) → Cl sc d 106 [vr 805, vi 5] (z_cfg t, I, J) (z_k sc d mt_111 false 47 [vr 805, vi x1] [] Q)))) : Go sc d mt_111 41 [vr 805, vi x1] [vi s0] (z_cfg t, I, J) Q := by
  obtain ⟨ts, te, tt, b1, b2, b3, b4, b5, b6⟩ := t
  · exact z_sound (f := false) (cuts := [19]) 300 41 [vr 805, vi x1] [vi s0] (z_tab (ts, te, tt, b1, b2, b3, b4, b5, b6) ++ t_l (ts, te, tt, b1, b2, b3, b4, b5, b6), t_s (ts, te, tt, b1, b2, b3, b4, b5, b6), I, J) (show (inR s0) ∧ (inR (-1)) ∧ ((s0 = ((-1) : Int) → Cl sc d 98 [vr 805] (z_cfg (ts, te, tt, b1, b2, b3, b4, b5, b6), I, J) (z_k sc d mt_111 false 53 [vr 805, vi x1] [] Q)) ∧ (¬ s0 = ((-1) : Int) → Cl sc d 106 [vr 805, vi 5] (z_cfg (ts, te, tt, b1, b2, b3, b4, b5, b6), I, J) (z_k sc d mt_111 false 47 [vr 805, vi x1] [] Q))) from ⟨h.1, ⟨⟨by decide, by decide⟩, ⟨fun c0 => (h.2.1 c0), fun c0 => (h.2.2 c0)⟩⟩⟩)
set_option maxRecDepth 8000 in
theorem b111_50 {x1 : Int} (h : Q (.inl (some (vi 0))) (z_cfg t, I, J)) : Go sc d mt_111 50 [vr 805, vi x1] [] (z_cfg t, I, J) Q := by
  obtain ⟨ts, te, tt, b1, b2, b3, b4, b5, b6⟩ := t
  · exact z_sound (f := false) (cuts := [19]) 300 50 [vr 805, vi x1] [] (z_tab (ts, te, tt, b1, b2, b3, b4, b5, b6) ++ t_l (ts, te, tt, b1, b2, b3, b4, b5, b6), t_s (ts, te, tt, b1, b2, b3, b4, b5, b6), I, J) h
set_option maxRecDepth 8000 in
theorem b111_56 {x1 : Int} (h : Q (.inl (some (vi x1))) (z_cfg t, I, J)) : Go sc d mt_111 56 [vr 805, vi x1] [] (z_cfg t, I, J) Q := by
  obtain ⟨ts, te, tt, b1, b2, b3, b4, b5, b6⟩ := t
  · exact z_sound (f := false) (cuts := [19]) 300 56 [vr 805, vi x1] [] (z_tab (ts, te, tt, b1, b2, b3, b4, b5, b6) ++ t_l (ts, te, tt, b1, b2, b3, b4, b5, b6), t_s (ts, te, tt, b1, b2, b3, b4, b5, b6), I, J) h
theorem c111 {w : zW} {K : zR → zW → Prop} (hd : 1 ≤ d) (h : ∀ d', d = d' + 1 → Go sc d' mt_111 0 [vr 805, vn] [] w K) : Cl sc d 111 [vr 805] w K := Cl_of rfl hd h
/-! FerryHall$Reader isName ()Z -/
set_option maxRecDepth 8000 in
theorem b112_0 (h : (inR (I 805 4)) ∧ ((I 805 4 = (1 : Int) → (inR ((I 805 3) - (I 805 5))) ∧ (((I 805 3) - (I 805 5) = (1 : Int) → Q (.inl (some (vi 1))) (z_cfg t, I, J)) ∧ (¬ (I 805 3) - (I 805 5) = (1 : Int) → Q (.inl (some (vi 0))) (z_cfg t, I, J)))) ∧ (¬ I 805 4 = (1 : Int) → Q (.inl (some (vi 0))) (z_cfg t, I, J)))) : Go sc d mt_112 0 [vr 805] [] (z_cfg t, I, J) Q := by
  obtain ⟨ts, te, tt, b1, b2, b3, b4, b5, b6⟩ := t
  · exact z_sound (f := false) (cuts := []) 300 0 [vr 805] [] (z_tab (ts, te, tt, b1, b2, b3, b4, b5, b6) ++ t_l (ts, te, tt, b1, b2, b3, b4, b5, b6), t_s (ts, te, tt, b1, b2, b3, b4, b5, b6), I, J) (show (inR (I 805 4)) ∧ (inR 1) ∧ ((I 805 4 = (1 : Int) → (inR ((I 805 3) - (I 805 5))) ∧ (inR 1) ∧ (((I 805 3) - (I 805 5) = (1 : Int) → ((1 : Int) = 0 ∨ (1 : Int) = 1) ∧ Q (.inl (some (vi 1))) (z_cfg (ts, te, tt, b1, b2, b3, b4, b5, b6), I, J)) ∧ (¬ (I 805 3) - (I 805 5) = (1 : Int) → ((0 : Int) = 0 ∨ (0 : Int) = 1) ∧ Q (.inl (some (vi 0))) (z_cfg (ts, te, tt, b1, b2, b3, b4, b5, b6), I, J)))) ∧ (¬ I 805 4 = (1 : Int) → ((0 : Int) = 0 ∨ (0 : Int) = 1) ∧ Q (.inl (some (vi 0))) (z_cfg (ts, te, tt, b1, b2, b3, b4, b5, b6), I, J))) from ⟨h.1, ⟨⟨by decide, by decide⟩, ⟨fun c0 => ⟨(h.2.1 c0).1, ⟨⟨by decide, by decide⟩, ⟨fun c1 => ⟨by decide, ((h.2.1 c0).2.1 c1)⟩, fun c1 => ⟨by decide, ((h.2.1 c0).2.2 c1)⟩⟩⟩⟩, fun c0 => ⟨by decide, (h.2.2 c0)⟩⟩⟩⟩)
theorem c112 {w : zW} {K : zR → zW → Prop} (hd : 1 ≤ d) (h : ∀ d', d = d' + 1 → Go sc d' mt_112 0 [vr 805] [] w K) : Cl sc d 112 [vr 805] w K := Cl_of rfl hd h
/-! FerryHall$Reader thingNamed (I)I -/
set_option maxRecDepth 8000 in
theorem b113_0 {x1 : Int} (h : Go sc d mt_113 2 [vr 805, vi x1, vi 0] [] (z_cfg t, I, J) Q) : Go sc d mt_113 0 [vr 805, vi x1, vn] [] (z_cfg t, I, J) Q := by
  obtain ⟨ts, te, tt, b1, b2, b3, b4, b5, b6⟩ := t
  · exact z_sound (f := false) (cuts := [2]) 300 0 [vr 805, vi x1, vn] [] (z_tab (ts, te, tt, b1, b2, b3, b4, b5, b6) ++ t_l (ts, te, tt, b1, b2, b3, b4, b5, b6), t_s (ts, te, tt, b1, b2, b3, b4, b5, b6), I, J) h
set_option maxRecDepth 8000 in
theorem b113_2 {x1 x2 : Int} (h : (inR x2) ∧ ((inR (I (z_md (t_eb t)) 1)) ∧ ((x2 < I (z_md (t_eb t)) 1 → (x2 < (8 : Int) → (0 ≤ x2 ∧ x2 < 8) ∧ ((inR (I (z_mf (t_eb t) 4) (x2).toNat)) ∧ ((inR x1) ∧ ((I (z_mf (t_eb t) 4) (x2).toNat = x1 → Q (.inl (some (vi x2))) (z_cfg t, I, J)) ∧ (¬ I (z_mf (t_eb t) 4) (x2).toNat = x1 → Go sc d mt_113 2 [vr 805, vi x1, vi (x2 + 1)] [] (z_cfg t, I, J) Q))))) ∧ (¬ x2 < (8 : Int) → Q (.inl (some (vi (-1)))) (z_cfg t, I, J))) ∧ (¬ x2 < I (z_md (t_eb t)) 1 → Q (.inl (some (vi (-1)))) (z_cfg t, I, J))))) : Go sc d mt_113 2 [vr 805, vi x1, vi x2] [] (z_cfg t, I, J) Q := by
  obtain ⟨ts, te, tt, b1, b2, b3, b4, b5, b6⟩ := t
  cases b6
  · exact z_sound (f := false) (cuts := [2]) 300 2 [vr 805, vi x1, vi x2] [] (z_tab (ts, te, tt, b1, b2, b3, b4, b5, false) ++ t_l (ts, te, tt, b1, b2, b3, b4, b5, false), t_s (ts, te, tt, b1, b2, b3, b4, b5, false), I, J) (show (inR x2) ∧ (inR (I (z_md (false)) 1)) ∧ ((x2 < I (z_md (false)) 1 → (inR x2) ∧ (inR 8) ∧ ((x2 < (8 : Int) → (0 ≤ x2 ∧ x2 < 8) ∧ (inR (I (z_mf (false) 4) (x2).toNat)) ∧ (inR x1) ∧ ((I (z_mf (false) 4) (x2).toNat = x1 → Q (.inl (some (vi x2))) (z_cfg (ts, te, tt, b1, b2, b3, b4, b5, false), I, J)) ∧ (¬ I (z_mf (false) 4) (x2).toNat = x1 → Go sc d mt_113 2 [vr 805, vi x1, vi (x2 + 1)] [] (z_cfg (ts, te, tt, b1, b2, b3, b4, b5, false), I, J) Q))) ∧ (¬ x2 < (8 : Int) → Q (.inl (some (vi (-1)))) (z_cfg (ts, te, tt, b1, b2, b3, b4, b5, false), I, J)))) ∧ (¬ x2 < I (z_md (false)) 1 → Q (.inl (some (vi (-1)))) (z_cfg (ts, te, tt, b1, b2, b3, b4, b5, false), I, J))) from ⟨h.1, ⟨h.2.1, ⟨fun c0 => ⟨h.1, ⟨⟨by decide, by decide⟩, ⟨fun c1 => ⟨((h.2.2.1 c0).1 c1).1, ⟨((h.2.2.1 c0).1 c1).2.1, ⟨((h.2.2.1 c0).1 c1).2.2.1, ⟨fun c2 => (((h.2.2.1 c0).1 c1).2.2.2.1 c2), fun c2 => (((h.2.2.1 c0).1 c1).2.2.2.2 c2)⟩⟩⟩⟩, fun c1 => ((h.2.2.1 c0).2 c1)⟩⟩⟩, fun c0 => (h.2.2.2 c0)⟩⟩⟩)
  · exact z_sound (f := false) (cuts := [2]) 300 2 [vr 805, vi x1, vi x2] [] (z_tab (ts, te, tt, b1, b2, b3, b4, b5, true) ++ t_l (ts, te, tt, b1, b2, b3, b4, b5, true), t_s (ts, te, tt, b1, b2, b3, b4, b5, true), I, J) (show (inR x2) ∧ (inR (I (z_md (true)) 1)) ∧ ((x2 < I (z_md (true)) 1 → (inR x2) ∧ (inR 8) ∧ ((x2 < (8 : Int) → (0 ≤ x2 ∧ x2 < 8) ∧ (inR (I (z_mf (true) 4) (x2).toNat)) ∧ (inR x1) ∧ ((I (z_mf (true) 4) (x2).toNat = x1 → Q (.inl (some (vi x2))) (z_cfg (ts, te, tt, b1, b2, b3, b4, b5, true), I, J)) ∧ (¬ I (z_mf (true) 4) (x2).toNat = x1 → Go sc d mt_113 2 [vr 805, vi x1, vi (x2 + 1)] [] (z_cfg (ts, te, tt, b1, b2, b3, b4, b5, true), I, J) Q))) ∧ (¬ x2 < (8 : Int) → Q (.inl (some (vi (-1)))) (z_cfg (ts, te, tt, b1, b2, b3, b4, b5, true), I, J)))) ∧ (¬ x2 < I (z_md (true)) 1 → Q (.inl (some (vi (-1)))) (z_cfg (ts, te, tt, b1, b2, b3, b4, b5, true), I, J))) from ⟨h.1, ⟨h.2.1, ⟨fun c0 => ⟨h.1, ⟨⟨by decide, by decide⟩, ⟨fun c1 => ⟨((h.2.2.1 c0).1 c1).1, ⟨((h.2.2.1 c0).1 c1).2.1, ⟨((h.2.2.1 c0).1 c1).2.2.1, ⟨fun c2 => (((h.2.2.1 c0).1 c1).2.2.2.1 c2), fun c2 => (((h.2.2.1 c0).1 c1).2.2.2.2 c2)⟩⟩⟩⟩, fun c1 => ((h.2.2.1 c0).2 c1)⟩⟩⟩, fun c0 => (h.2.2.2 c0)⟩⟩⟩)
theorem c113 {x1 : Int} {w : zW} {K : zR → zW → Prop} (hd : 1 ≤ d) (h : ∀ d', d = d' + 1 → Go sc d' mt_113 0 [vr 805, vi x1, vn] [] w K) : Cl sc d 113 [vr 805, vi x1] w K := Cl_of rfl hd h
/-! FerryHall$Reader needWord (Ljava/lang/String;)V -/
set_option maxRecDepth 8000 in
theorem b114_0 {wd : Nat} (h : Cl sc d 103 [vr 805, vr (wd + 1)] (z_cfg t, I, J) (z_k sc d mt_114 false 2 [vr 805, vr (wd + 1)] [] Q)) : Go sc d mt_114 0 [vr 805, vr (wd + 1)] [] (z_cfg t, I, J) Q := by
  obtain ⟨ts, te, tt, b1, b2, b3, b4, b5, b6⟩ := t
  · exact z_sound (f := false) (cuts := []) 300 0 [vr 805, vr (wd + 1)] [] (z_tab (ts, te, tt, b1, b2, b3, b4, b5, b6) ++ t_l (ts, te, tt, b1, b2, b3, b4, b5, b6), t_s (ts, te, tt, b1, b2, b3, b4, b5, b6), I, J) h
set_option maxRecDepth 8000 in
theorem b114_5 {wd : Nat} {s0 : Int} (h : (inR s0) ∧ ((s0 = 0 → Cl sc d 106 [vr 805, vi 1] (z_cfg t, I, J) (z_k sc d mt_114 false 10 [vr 805, vr (wd + 1)] [] Q)) ∧ (¬ s0 = 0 → Q (.inl none) (z_cfg t, I, J)))) : Go sc d mt_114 5 [vr 805, vr (wd + 1)] [vi s0] (z_cfg t, I, J) Q := by
  obtain ⟨ts, te, tt, b1, b2, b3, b4, b5, b6⟩ := t
  · exact z_sound (f := false) (cuts := []) 300 5 [vr 805, vr (wd + 1)] [vi s0] (z_tab (ts, te, tt, b1, b2, b3, b4, b5, b6) ++ t_l (ts, te, tt, b1, b2, b3, b4, b5, b6), t_s (ts, te, tt, b1, b2, b3, b4, b5, b6), I, J) h
set_option maxRecDepth 8000 in
theorem b114_13 {wd : Nat} (h : Q (.inl none) (z_cfg t, I, J)) : Go sc d mt_114 13 [vr 805, vr (wd + 1)] [] (z_cfg t, I, J) Q := by
  obtain ⟨ts, te, tt, b1, b2, b3, b4, b5, b6⟩ := t
  · exact z_sound (f := false) (cuts := []) 300 13 [vr 805, vr (wd + 1)] [] (z_tab (ts, te, tt, b1, b2, b3, b4, b5, b6) ++ t_l (ts, te, tt, b1, b2, b3, b4, b5, b6), t_s (ts, te, tt, b1, b2, b3, b4, b5, b6), I, J) h
theorem c114 {wd : Nat} {w : zW} {K : zR → zW → Prop} (hd : 1 ≤ d) (h : ∀ d', d = d' + 1 → Go sc d' mt_114 0 [vr 805, vr (wd + 1)] [] w K) : Cl sc d 114 [vr 805, vr (wd + 1)] w K := Cl_of rfl hd h
/-! FerryHall$Reader readBoat ()V -/
set_option maxRecDepth 8000 in
theorem b115_0 (h : (inR (I (z_md (t_eb t)) 5)) ∧ ((I (z_md (t_eb t)) 5 < 0 → Go sc d mt_115 17 [vr 805, vi (I (z_md (t_eb t)) 5)] [] (z_cfg t, I, J) Q) ∧ (¬ I (z_md (t_eb t)) 5 < 0 → (I (z_md (t_eb t)) 5 < (2 : Int) → Cl sc d 98 [vr 805] (z_cfg t, I, J) (z_k sc d mt_115 false 24 [vr 805, vi (I (z_md (t_eb t)) 5)] [] Q)) ∧ (¬ I (z_md (t_eb t)) 5 < (2 : Int) → Go sc d mt_115 17 [vr 805, vi (I (z_md (t_eb t)) 5)] [] (z_cfg t, I, J) Q)))) : Go sc d mt_115 0 [vr 805, vn] [] (z_cfg t, I, J) Q := by
  obtain ⟨ts, te, tt, b1, b2, b3, b4, b5, b6⟩ := t
  cases b6
  · exact z_sound (f := false) (cuts := [17]) 300 0 [vr 805, vn] [] (z_tab (ts, te, tt, b1, b2, b3, b4, b5, false) ++ t_l (ts, te, tt, b1, b2, b3, b4, b5, false), t_s (ts, te, tt, b1, b2, b3, b4, b5, false), I, J) (show (inR (I (z_md (false)) 5)) ∧ ((I (z_md (false)) 5 < 0 → Go sc d mt_115 17 [vr 805, vi (I (z_md (false)) 5)] [] (z_cfg (ts, te, tt, b1, b2, b3, b4, b5, false), I, J) Q) ∧ (¬ I (z_md (false)) 5 < 0 → (inR (I (z_md (false)) 5)) ∧ (inR 2) ∧ ((I (z_md (false)) 5 < (2 : Int) → Cl sc d 98 [vr 805] (z_cfg (ts, te, tt, b1, b2, b3, b4, b5, false), I, J) (z_k sc d mt_115 false 24 [vr 805, vi (I (z_md (false)) 5)] [] Q)) ∧ (¬ I (z_md (false)) 5 < (2 : Int) → Go sc d mt_115 17 [vr 805, vi (I (z_md (false)) 5)] [] (z_cfg (ts, te, tt, b1, b2, b3, b4, b5, false), I, J) Q)))) from ⟨h.1, ⟨fun c0 => (h.2.1 c0), fun c0 => ⟨h.1, ⟨⟨by decide, by decide⟩, ⟨fun c1 => ((h.2.2 c0).1 c1), fun c1 => ((h.2.2 c0).2 c1)⟩⟩⟩⟩⟩)
  · exact z_sound (f := false) (cuts := [17]) 300 0 [vr 805, vn] [] (z_tab (ts, te, tt, b1, b2, b3, b4, b5, true) ++ t_l (ts, te, tt, b1, b2, b3, b4, b5, true), t_s (ts, te, tt, b1, b2, b3, b4, b5, true), I, J) (show (inR (I (z_md (true)) 5)) ∧ ((I (z_md (true)) 5 < 0 → Go sc d mt_115 17 [vr 805, vi (I (z_md (true)) 5)] [] (z_cfg (ts, te, tt, b1, b2, b3, b4, b5, true), I, J) Q) ∧ (¬ I (z_md (true)) 5 < 0 → (inR (I (z_md (true)) 5)) ∧ (inR 2) ∧ ((I (z_md (true)) 5 < (2 : Int) → Cl sc d 98 [vr 805] (z_cfg (ts, te, tt, b1, b2, b3, b4, b5, true), I, J) (z_k sc d mt_115 false 24 [vr 805, vi (I (z_md (true)) 5)] [] Q)) ∧ (¬ I (z_md (true)) 5 < (2 : Int) → Go sc d mt_115 17 [vr 805, vi (I (z_md (true)) 5)] [] (z_cfg (ts, te, tt, b1, b2, b3, b4, b5, true), I, J) Q)))) from ⟨h.1, ⟨fun c0 => (h.2.1 c0), fun c0 => ⟨h.1, ⟨⟨by decide, by decide⟩, ⟨fun c1 => ((h.2.2 c0).1 c1), fun c1 => ((h.2.2 c0).2 c1)⟩⟩⟩⟩⟩)
set_option maxRecDepth 8000 in
theorem b115_17 {x1 : Int} (h : Cl sc d 106 [vr 805, vi 2] (z_cfg t, I, J) (z_k sc d mt_115 false 19 [vr 805, vi x1] [] Q)) : Go sc d mt_115 17 [vr 805, vi x1] [] (z_cfg t, I, J) Q := by
  obtain ⟨ts, te, tt, b1, b2, b3, b4, b5, b6⟩ := t
  · exact z_sound (f := false) (cuts := [17]) 300 17 [vr 805, vi x1] [] (z_tab (ts, te, tt, b1, b2, b3, b4, b5, b6) ++ t_l (ts, te, tt, b1, b2, b3, b4, b5, b6), t_s (ts, te, tt, b1, b2, b3, b4, b5, b6), I, J) h
set_option maxRecDepth 8000 in
theorem b115_22 {x1 : Int} (h : Q (.inl none) (z_cfg t, I, J)) : Go sc d mt_115 22 [vr 805, vi x1] [] (z_cfg t, I, J) Q := by
  obtain ⟨ts, te, tt, b1, b2, b3, b4, b5, b6⟩ := t
  · exact z_sound (f := false) (cuts := [17]) 300 22 [vr 805, vi x1] [] (z_tab (ts, te, tt, b1, b2, b3, b4, b5, b6) ++ t_l (ts, te, tt, b1, b2, b3, b4, b5, b6), t_s (ts, te, tt, b1, b2, b3, b4, b5, b6), I, J) h
set_option maxRecDepth 8000 in
theorem b115_27 {x1 : Int} (h : Cl sc d 114 [vr 805, vr 793] (z_cfg t, I, J) (z_k sc d mt_115 false 30 [vr 805, vi x1] [] Q)) : Go sc d mt_115 27 [vr 805, vi x1] [] (z_cfg t, I, J) Q := by
  obtain ⟨ts, te, tt, b1, b2, b3, b4, b5, b6⟩ := t
  · exact z_sound (f := false) (cuts := [17]) 300 27 [vr 805, vi x1] [] (z_tab (ts, te, tt, b1, b2, b3, b4, b5, b6) ++ t_l (ts, te, tt, b1, b2, b3, b4, b5, b6), t_s (ts, te, tt, b1, b2, b3, b4, b5, b6), I, J) h
set_option maxRecDepth 8000 in
theorem b115_33 {x1 : Int} (h : Cl sc d 105 [vr 805, vi 1, vi 8] (z_cfg t, I, J) (z_k sc d mt_115 false 45 [vr 805, vi x1] [vi x1, vr (z_mf (t_eb t) 6)] Q)) : Go sc d mt_115 33 [vr 805, vi x1] [] (z_cfg t, I, J) Q := by
  obtain ⟨ts, te, tt, b1, b2, b3, b4, b5, b6⟩ := t
  cases b6
  · exact z_sound (f := false) (cuts := [17]) 300 33 [vr 805, vi x1] [] (z_tab (ts, te, tt, b1, b2, b3, b4, b5, false) ++ t_l (ts, te, tt, b1, b2, b3, b4, b5, false), t_s (ts, te, tt, b1, b2, b3, b4, b5, false), I, J) h
  · exact z_sound (f := false) (cuts := [17]) 300 33 [vr 805, vi x1] [] (z_tab (ts, te, tt, b1, b2, b3, b4, b5, true) ++ t_l (ts, te, tt, b1, b2, b3, b4, b5, true), t_s (ts, te, tt, b1, b2, b3, b4, b5, true), I, J) h
set_option maxRecDepth 8000 in
theorem b115_48 {x1 s1 s0 : Int} (h : (0 ≤ s1 ∧ s1 < 2) ∧ Cl sc d 114 [vr 805, vr 825] (z_cfg t, z_u I (z_mf (t_eb t) 6) (s1).toNat s0, J) (z_k sc d mt_115 false 52 [vr 805, vi x1] [] Q)) : Go sc d mt_115 48 [vr 805, vi x1] [vi s0, vi s1, vr (z_mf (t_eb t) 6)] (z_cfg t, I, J) Q := by
  obtain ⟨ts, te, tt, b1, b2, b3, b4, b5, b6⟩ := t
  cases b6
  · exact z_sound (f := false) (cuts := [17]) 300 48 [vr 805, vi x1] [vi s0, vi s1, vr (z_mf (false) 6)] (z_tab (ts, te, tt, b1, b2, b3, b4, b5, false) ++ t_l (ts, te, tt, b1, b2, b3, b4, b5, false), t_s (ts, te, tt, b1, b2, b3, b4, b5, false), I, J) h
  · exact z_sound (f := false) (cuts := [17]) 300 48 [vr 805, vi x1] [vi s0, vi s1, vr (z_mf (true) 6)] (z_tab (ts, te, tt, b1, b2, b3, b4, b5, true) ++ t_l (ts, te, tt, b1, b2, b3, b4, b5, true), t_s (ts, te, tt, b1, b2, b3, b4, b5, true), I, J) h
set_option maxRecDepth 8000 in
theorem b115_55 {x1 : Int} (h : Cl sc d 105 [vr 805, vi 0, vi 999] (z_cfg t, I, J) (z_k sc d mt_115 false 68 [vr 805, vi x1] [vi x1, vr (z_mf (t_eb t) 7)] Q)) : Go sc d mt_115 55 [vr 805, vi x1] [] (z_cfg t, I, J) Q := by
  obtain ⟨ts, te, tt, b1, b2, b3, b4, b5, b6⟩ := t
  cases b6
  · exact z_sound (f := false) (cuts := [17]) 300 55 [vr 805, vi x1] [] (z_tab (ts, te, tt, b1, b2, b3, b4, b5, false) ++ t_l (ts, te, tt, b1, b2, b3, b4, b5, false), t_s (ts, te, tt, b1, b2, b3, b4, b5, false), I, J) h
  · exact z_sound (f := false) (cuts := [17]) 300 55 [vr 805, vi x1] [] (z_tab (ts, te, tt, b1, b2, b3, b4, b5, true) ++ t_l (ts, te, tt, b1, b2, b3, b4, b5, true), t_s (ts, te, tt, b1, b2, b3, b4, b5, true), I, J) h
set_option maxRecDepth 8000 in
theorem b115_71 {x1 s1 s0 : Int} (h : (0 ≤ s1 ∧ s1 < 2) ∧ Cl sc d 114 [vr 805, vr 857] (z_cfg t, z_u I (z_mf (t_eb t) 7) (s1).toNat s0, J) (z_k sc d mt_115 false 75 [vr 805, vi x1] [] Q)) : Go sc d mt_115 71 [vr 805, vi x1] [vi s0, vi s1, vr (z_mf (t_eb t) 7)] (z_cfg t, I, J) Q := by
  obtain ⟨ts, te, tt, b1, b2, b3, b4, b5, b6⟩ := t
  cases b6
  · exact z_sound (f := false) (cuts := [17]) 300 71 [vr 805, vi x1] [vi s0, vi s1, vr (z_mf (false) 7)] (z_tab (ts, te, tt, b1, b2, b3, b4, b5, false) ++ t_l (ts, te, tt, b1, b2, b3, b4, b5, false), t_s (ts, te, tt, b1, b2, b3, b4, b5, false), I, J) h
  · exact z_sound (f := false) (cuts := [17]) 300 71 [vr 805, vi x1] [vi s0, vi s1, vr (z_mf (true) 7)] (z_tab (ts, te, tt, b1, b2, b3, b4, b5, true) ++ t_l (ts, te, tt, b1, b2, b3, b4, b5, true), t_s (ts, te, tt, b1, b2, b3, b4, b5, true), I, J) h
set_option maxRecDepth 8000 in
theorem b115_78 {x1 : Int} (h : Cl sc d 116 [vr 805, vi (-1)] (z_cfg t, I, J) (z_k sc d mt_115 false 88 [vr 805, vi x1] [vi x1, vr (z_mf (t_eb t) 8)] Q)) : Go sc d mt_115 78 [vr 805, vi x1] [] (z_cfg t, I, J) Q := by
  obtain ⟨ts, te, tt, b1, b2, b3, b4, b5, b6⟩ := t
  cases b6
  · exact z_sound (f := false) (cuts := [17]) 300 78 [vr 805, vi x1] [] (z_tab (ts, te, tt, b1, b2, b3, b4, b5, false) ++ t_l (ts, te, tt, b1, b2, b3, b4, b5, false), t_s (ts, te, tt, b1, b2, b3, b4, b5, false), I, J) h
  · exact z_sound (f := false) (cuts := [17]) 300 78 [vr 805, vi x1] [] (z_tab (ts, te, tt, b1, b2, b3, b4, b5, true) ++ t_l (ts, te, tt, b1, b2, b3, b4, b5, true), t_s (ts, te, tt, b1, b2, b3, b4, b5, true), I, J) h
set_option maxRecDepth 8000 in
theorem b115_91 {x1 s1 s0 : Int} (h : (0 ≤ s1 ∧ s1 < 2) ∧ Q (.inl none) (z_cfg t, z_u (z_u I (z_mf (t_eb t) 8) (s1).toNat s0) (z_md (t_eb t)) 5 (x1 + 1), J)) : Go sc d mt_115 91 [vr 805, vi x1] [vi s0, vi s1, vr (z_mf (t_eb t) 8)] (z_cfg t, I, J) Q := by
  obtain ⟨ts, te, tt, b1, b2, b3, b4, b5, b6⟩ := t
  cases b6
  · exact z_sound (f := false) (cuts := [17]) 300 91 [vr 805, vi x1] [vi s0, vi s1, vr (z_mf (false) 8)] (z_tab (ts, te, tt, b1, b2, b3, b4, b5, false) ++ t_l (ts, te, tt, b1, b2, b3, b4, b5, false), t_s (ts, te, tt, b1, b2, b3, b4, b5, false), I, J) h
  · exact z_sound (f := false) (cuts := [17]) 300 91 [vr 805, vi x1] [vi s0, vi s1, vr (z_mf (true) 8)] (z_tab (ts, te, tt, b1, b2, b3, b4, b5, true) ++ t_l (ts, te, tt, b1, b2, b3, b4, b5, true), t_s (ts, te, tt, b1, b2, b3, b4, b5, true), I, J) h
theorem c115 {w : zW} {K : zR → zW → Prop} (hd : 1 ≤ d) (h : ∀ d', d = d' + 1 → Go sc d' mt_115 0 [vr 805, vn] [] w K) : Cl sc d 115 [vr 805] w K := Cl_of rfl hd h
/-! FerryHall$Reader needShore (I)I -/
set_option maxRecDepth 8000 in
theorem b116_0 {x1 : Int} (h : (inR (I 805 4)) ∧ ((I 805 4 = (2 : Int) → (inR ((I 805 3) - (I 805 5))) ∧ (((3 : Int) < (I 805 3) - (I 805 5) → Go sc d mt_116 56 [vr 805, vi x1] [] (z_cfg t, I, J) Q) ∧ (¬ (3 : Int) < (I 805 3) - (I 805 5) → (inR (I 805 6)) ∧ ((inR (I (z_md (t_eb t)) 0)) ∧ ((I 805 6 < I (z_md (t_eb t)) 0 → (inR x1) ∧ ((I 805 6 = x1 → Cl sc d 106 [vr 805, vi 5] (z_cfg t, I, J) (z_k sc d mt_116 false 53 [vr 805, vi x1] [] Q)) ∧ (¬ I 805 6 = x1 → Go sc d mt_116 56 [vr 805, vi x1] [] (z_cfg t, I, J) Q))) ∧ (¬ I 805 6 < I (z_md (t_eb t)) 0 → Cl sc d 106 [vr 805, vi 4] (z_cfg t, I, J) (z_k sc d mt_116 false 37 [vr 805, vi x1] [] Q))))))) ∧ (¬ I 805 4 = (2 : Int) → Go sc d mt_116 56 [vr 805, vi x1] [] (z_cfg t, I, J) Q))) : Go sc d mt_116 0 [vr 805, vi x1] [] (z_cfg t, I, J) Q := by
  obtain ⟨ts, te, tt, b1, b2, b3, b4, b5, b6⟩ := t
  cases b6
  · exact z_sound (f := false) (cuts := [56]) 300 0 [vr 805, vi x1] [] (z_tab (ts, te, tt, b1, b2, b3, b4, b5, false) ++ t_l (ts, te, tt, b1, b2, b3, b4, b5, false), t_s (ts, te, tt, b1, b2, b3, b4, b5, false), I, J) (show (inR (I 805 4)) ∧ (inR 2) ∧ ((I 805 4 = (2 : Int) → (inR ((I 805 3) - (I 805 5))) ∧ (inR 3) ∧ (((3 : Int) < (I 805 3) - (I 805 5) → Go sc d mt_116 56 [vr 805, vi x1] [] (z_cfg (ts, te, tt, b1, b2, b3, b4, b5, false), I, J) Q) ∧ (¬ (3 : Int) < (I 805 3) - (I 805 5) → (inR (I 805 6)) ∧ (inR (I (z_md (false)) 0)) ∧ ((I 805 6 < I (z_md (false)) 0 → (inR (I 805 6)) ∧ (inR x1) ∧ ((I 805 6 = x1 → Cl sc d 106 [vr 805, vi 5] (z_cfg (ts, te, tt, b1, b2, b3, b4, b5, false), I, J) (z_k sc d mt_116 false 53 [vr 805, vi x1] [] Q)) ∧ (¬ I 805 6 = x1 → Go sc d mt_116 56 [vr 805, vi x1] [] (z_cfg (ts, te, tt, b1, b2, b3, b4, b5, false), I, J) Q))) ∧ (¬ I 805 6 < I (z_md (false)) 0 → Cl sc d 106 [vr 805, vi 4] (z_cfg (ts, te, tt, b1, b2, b3, b4, b5, false), I, J) (z_k sc d mt_116 false 37 [vr 805, vi x1] [] Q)))))) ∧ (¬ I 805 4 = (2 : Int) → Go sc d mt_116 56 [vr 805, vi x1] [] (z_cfg (ts, te, tt, b1, b2, b3, b4, b5, false), I, J) Q)) from ⟨h.1, ⟨⟨by decide, by decide⟩, ⟨fun c0 => ⟨(h.2.1 c0).1, ⟨⟨by decide, by decide⟩, ⟨fun c1 => ((h.2.1 c0).2.1 c1), fun c1 => ⟨((h.2.1 c0).2.2 c1).1, ⟨((h.2.1 c0).2.2 c1).2.1, ⟨fun c2 => ⟨((h.2.1 c0).2.2 c1).1, ⟨(((h.2.1 c0).2.2 c1).2.2.1 c2).1, ⟨fun c3 => ((((h.2.1 c0).2.2 c1).2.2.1 c2).2.1 c3), fun c3 => ((((h.2.1 c0).2.2 c1).2.2.1 c2).2.2 c3)⟩⟩⟩, fun c2 => (((h.2.1 c0).2.2 c1).2.2.2 c2)⟩⟩⟩⟩⟩⟩, fun c0 => (h.2.2 c0)⟩⟩⟩)
  · exact z_sound (f := false) (cuts := [56]) 300 0 [vr 805, vi x1] [] (z_tab (ts, te, tt, b1, b2, b3, b4, b5, true) ++ t_l (ts, te, tt, b1, b2, b3, b4, b5, true), t_s (ts, te, tt, b1, b2, b3, b4, b5, true), I, J) (show (inR (I 805 4)) ∧ (inR 2) ∧ ((I 805 4 = (2 : Int) → (inR ((I 805 3) - (I 805 5))) ∧ (inR 3) ∧ (((3 : Int) < (I 805 3) - (I 805 5) → Go sc d mt_116 56 [vr 805, vi x1] [] (z_cfg (ts, te, tt, b1, b2, b3, b4, b5, true), I, J) Q) ∧ (¬ (3 : Int) < (I 805 3) - (I 805 5) → (inR (I 805 6)) ∧ (inR (I (z_md (true)) 0)) ∧ ((I 805 6 < I (z_md (true)) 0 → (inR (I 805 6)) ∧ (inR x1) ∧ ((I 805 6 = x1 → Cl sc d 106 [vr 805, vi 5] (z_cfg (ts, te, tt, b1, b2, b3, b4, b5, true), I, J) (z_k sc d mt_116 false 53 [vr 805, vi x1] [] Q)) ∧ (¬ I 805 6 = x1 → Go sc d mt_116 56 [vr 805, vi x1] [] (z_cfg (ts, te, tt, b1, b2, b3, b4, b5, true), I, J) Q))) ∧ (¬ I 805 6 < I (z_md (true)) 0 → Cl sc d 106 [vr 805, vi 4] (z_cfg (ts, te, tt, b1, b2, b3, b4, b5, true), I, J) (z_k sc d mt_116 false 37 [vr 805, vi x1] [] Q)))))) ∧ (¬ I 805 4 = (2 : Int) → Go sc d mt_116 56 [vr 805, vi x1] [] (z_cfg (ts, te, tt, b1, b2, b3, b4, b5, true), I, J) Q)) from ⟨h.1, ⟨⟨by decide, by decide⟩, ⟨fun c0 => ⟨(h.2.1 c0).1, ⟨⟨by decide, by decide⟩, ⟨fun c1 => ((h.2.1 c0).2.1 c1), fun c1 => ⟨((h.2.1 c0).2.2 c1).1, ⟨((h.2.1 c0).2.2 c1).2.1, ⟨fun c2 => ⟨((h.2.1 c0).2.2 c1).1, ⟨(((h.2.1 c0).2.2 c1).2.2.1 c2).1, ⟨fun c3 => ((((h.2.1 c0).2.2 c1).2.2.1 c2).2.1 c3), fun c3 => ((((h.2.1 c0).2.2 c1).2.2.1 c2).2.2 c3)⟩⟩⟩, fun c2 => (((h.2.1 c0).2.2 c1).2.2.2 c2)⟩⟩⟩⟩⟩⟩, fun c0 => (h.2.2 c0)⟩⟩⟩)
set_option maxRecDepth 8000 in
theorem b116_40 {x1 : Int} (h : Go sc d mt_116 56 [vr 805, vi x1] [] (z_cfg t, I, J) Q) : Go sc d mt_116 40 [vr 805, vi x1] [] (z_cfg t, I, J) Q := by
  obtain ⟨ts, te, tt, b1, b2, b3, b4, b5, b6⟩ := t
  · exact z_sound (f := false) (cuts := [56]) 300 40 [vr 805, vi x1] [] (z_tab (ts, te, tt, b1, b2, b3, b4, b5, b6) ++ t_l (ts, te, tt, b1, b2, b3, b4, b5, b6), t_s (ts, te, tt, b1, b2, b3, b4, b5, b6), I, J) h
set_option maxRecDepth 8000 in
theorem b116_56 {x1 : Int} (h : Cl sc d 105 [vr 805, vi 0, vi 3] (z_cfg t, I, J) (z_k sc d mt_116 false 59 [vr 805, vi x1] [] Q)) : Go sc d mt_116 56 [vr 805, vi x1] [] (z_cfg t, I, J) Q := by
  obtain ⟨ts, te, tt, b1, b2, b3, b4, b5, b6⟩ := t
  · exact z_sound (f := false) (cuts := [56]) 300 56 [vr 805, vi x1] [] (z_tab (ts, te, tt, b1, b2, b3, b4, b5, b6) ++ t_l (ts, te, tt, b1, b2, b3, b4, b5, b6), t_s (ts, te, tt, b1, b2, b3, b4, b5, b6), I, J) h
set_option maxRecDepth 8000 in
theorem b116_62 {x1 s0 : Int} (h : Q (.inl (some (vi s0))) (z_cfg t, I, J)) : Go sc d mt_116 62 [vr 805, vi x1] [vi s0] (z_cfg t, I, J) Q := by
  obtain ⟨ts, te, tt, b1, b2, b3, b4, b5, b6⟩ := t
  · exact z_sound (f := false) (cuts := [56]) 300 62 [vr 805, vi x1] [vi s0] (z_tab (ts, te, tt, b1, b2, b3, b4, b5, b6) ++ t_l (ts, te, tt, b1, b2, b3, b4, b5, b6), t_s (ts, te, tt, b1, b2, b3, b4, b5, b6), I, J) h
theorem c116 {x1 : Int} {w : zW} {K : zR → zW → Prop} (hd : 1 ≤ d) (h : ∀ d', d = d' + 1 → Go sc d' mt_116 0 [vr 805, vi x1] [] w K) : Cl sc d 116 [vr 805, vi x1] w K := Cl_of rfl hd h
/-! FerryHall$Reader readWater (Z)V -/
set_option maxRecDepth 8000 in
theorem b117_0 {x1 : Int} (h : Cl sc d 98 [vr 805] (z_cfg t, I, J) (z_k sc d mt_117 false 1 [vr 805, vi x1, vn, vn] [] Q)) : Go sc d mt_117 0 [vr 805, vi x1, vn, vn] [] (z_cfg t, I, J) Q := by
  obtain ⟨ts, te, tt, b1, b2, b3, b4, b5, b6⟩ := t
  · exact z_sound (f := false) (cuts := []) 300 0 [vr 805, vi x1, vn, vn] [] (z_tab (ts, te, tt, b1, b2, b3, b4, b5, b6) ++ t_l (ts, te, tt, b1, b2, b3, b4, b5, b6), t_s (ts, te, tt, b1, b2, b3, b4, b5, b6), I, J) h
set_option maxRecDepth 8000 in
theorem b117_4 {x1 : Int} (h : Cl sc d 116 [vr 805, vi (-1)] (z_cfg t, I, J) (z_k sc d mt_117 false 6 [vr 805, vi x1, vn, vn] [] Q)) : Go sc d mt_117 4 [vr 805, vi x1, vn, vn] [] (z_cfg t, I, J) Q := by
  obtain ⟨ts, te, tt, b1, b2, b3, b4, b5, b6⟩ := t
  · exact z_sound (f := false) (cuts := []) 300 4 [vr 805, vi x1, vn, vn] [] (z_tab (ts, te, tt, b1, b2, b3, b4, b5, b6) ++ t_l (ts, te, tt, b1, b2, b3, b4, b5, b6), t_s (ts, te, tt, b1, b2, b3, b4, b5, b6), I, J) h
set_option maxRecDepth 8000 in
theorem b117_9 {x1 s0 : Int} (h : Cl sc d 116 [vr 805, vi s0] (z_cfg t, I, J) (z_k sc d mt_117 false 12 [vr 805, vi x1, vi s0, vn] [] Q)) : Go sc d mt_117 9 [vr 805, vi x1, vn, vn] [vi s0] (z_cfg t, I, J) Q := by
  obtain ⟨ts, te, tt, b1, b2, b3, b4, b5, b6⟩ := t
  · exact z_sound (f := false) (cuts := []) 300 9 [vr 805, vi x1, vn, vn] [vi s0] (z_tab (ts, te, tt, b1, b2, b3, b4, b5, b6) ++ t_l (ts, te, tt, b1, b2, b3, b4, b5, b6), t_s (ts, te, tt, b1, b2, b3, b4, b5, b6), I, J) h
set_option maxRecDepth 8000 in
theorem b117_15 {x1 x2 s0 : Int} (h : (inR (I 805 7)) ∧ ((I 805 7 = 0 → (inR x2) ∧ ((x2 < (4 : Int) → (inR s0) ∧ ((s0 < (4 : Int) → (0 ≤ x2 ∧ x2 < 4) ∧ ((inR x1) ∧ ((x1 = 0 → Q (.inl none) (z_cfg t, z_u (z_u I (z_md (t_eb t)) 10 1) (z_mf (t_eb t) 11) (x2).toNat (zor (I (z_mf (t_eb t) 11) (x2).toNat) (zshl 1 s0)), J)) ∧ (¬ x1 = 0 → (0 ≤ s0 ∧ s0 < 4) ∧ (Q (.inl none) (z_cfg t, z_u (z_u (z_u I (z_md (t_eb t)) 10 1) (z_mf (t_eb t) 11) (x2).toNat (zor (I (z_mf (t_eb t) 11) (x2).toNat) (zshl 1 s0))) (z_mf (t_eb t) 11) (s0).toNat (zor ((z_u (z_u I (z_md (t_eb t)) 10 1) (z_mf (t_eb t) 11) (x2).toNat (zor (I (z_mf (t_eb t) 11) (x2).toNat) (zshl 1 s0))) (z_mf (t_eb t) 11) (s0).toNat) (zshl 1 x2)), J)))))) ∧ (¬ s0 < (4 : Int) → Q (.inl none) (z_cfg t, I, J)))) ∧ (¬ x2 < (4 : Int) → Q (.inl none) (z_cfg t, I, J)))) ∧ (¬ I 805 7 = 0 → Q (.inl none) (z_cfg t, I, J)))) : Go sc d mt_117 15 [vr 805, vi x1, vi x2, vn] [vi s0] (z_cfg t, I, J) Q := by
  obtain ⟨ts, te, tt, b1, b2, b3, b4, b5, b6⟩ := t
  cases b6
  · exact z_sound (f := false) (cuts := []) 300 15 [vr 805, vi x1, vi x2, vn] [vi s0] (z_tab (ts, te, tt, b1, b2, b3, b4, b5, false) ++ t_l (ts, te, tt, b1, b2, b3, b4, b5, false), t_s (ts, te, tt, b1, b2, b3, b4, b5, false), I, J) (show (inR (I 805 7)) ∧ ((I 805 7 = 0 → (inR x2) ∧ (inR 4) ∧ ((x2 < (4 : Int) → (inR s0) ∧ (inR 4) ∧ ((s0 < (4 : Int) → ((1 : Int) = 0 ∨ (1 : Int) = 1) ∧ (0 ≤ x2 ∧ x2 < 4) ∧ (0 ≤ x2 ∧ x2 < 4) ∧ (inR x1) ∧ ((x1 = 0 → Q (.inl none) (z_cfg (ts, te, tt, b1, b2, b3, b4, b5, false), z_u (z_u I (z_md (false)) 10 1) (z_mf (false) 11) (x2).toNat (zor (I (z_mf (false) 11) (x2).toNat) (zshl 1 s0)), J)) ∧ (¬ x1 = 0 → (0 ≤ s0 ∧ s0 < 4) ∧ (0 ≤ s0 ∧ s0 < 4) ∧ Q (.inl none) (z_cfg (ts, te, tt, b1, b2, b3, b4, b5, false), z_u (z_u (z_u I (z_md (false)) 10 1) (z_mf (false) 11) (x2).toNat (zor (I (z_mf (false) 11) (x2).toNat) (zshl 1 s0))) (z_mf (false) 11) (s0).toNat (zor ((z_u (z_u I (z_md (false)) 10 1) (z_mf (false) 11) (x2).toNat (zor (I (z_mf (false) 11) (x2).toNat) (zshl 1 s0))) (z_mf (false) 11) (s0).toNat) (zshl 1 x2)), J)))) ∧ (¬ s0 < (4 : Int) → Q (.inl none) (z_cfg (ts, te, tt, b1, b2, b3, b4, b5, false), I, J)))) ∧ (¬ x2 < (4 : Int) → Q (.inl none) (z_cfg (ts, te, tt, b1, b2, b3, b4, b5, false), I, J)))) ∧ (¬ I 805 7 = 0 → Q (.inl none) (z_cfg (ts, te, tt, b1, b2, b3, b4, b5, false), I, J))) from ⟨h.1, ⟨fun c0 => ⟨(h.2.1 c0).1, ⟨⟨by decide, by decide⟩, ⟨fun c1 => ⟨((h.2.1 c0).2.1 c1).1, ⟨⟨by decide, by decide⟩, ⟨fun c2 => ⟨by decide, ⟨(((h.2.1 c0).2.1 c1).2.1 c2).1, ⟨(((h.2.1 c0).2.1 c1).2.1 c2).1, ⟨(((h.2.1 c0).2.1 c1).2.1 c2).2.1, ⟨fun c3 => ((((h.2.1 c0).2.1 c1).2.1 c2).2.2.1 c3), fun c3 => ⟨((((h.2.1 c0).2.1 c1).2.1 c2).2.2.2 c3).1, ⟨((((h.2.1 c0).2.1 c1).2.1 c2).2.2.2 c3).1, ((((h.2.1 c0).2.1 c1).2.1 c2).2.2.2 c3).2⟩⟩⟩⟩⟩⟩⟩, fun c2 => (((h.2.1 c0).2.1 c1).2.2 c2)⟩⟩⟩, fun c1 => ((h.2.1 c0).2.2 c1)⟩⟩⟩, fun c0 => (h.2.2 c0)⟩⟩)
  · exact z_sound (f := false) (cuts := []) 300 15 [vr 805, vi x1, vi x2, vn] [vi s0] (z_tab (ts, te, tt, b1, b2, b3, b4, b5, true) ++ t_l (ts, te, tt, b1, b2, b3, b4, b5, true), t_s (ts, te, tt, b1, b2, b3, b4, b5, true), I, J) (show (inR (I 805 7)) ∧ ((I 805 7 = 0 → (inR x2) ∧ (inR 4) ∧ ((x2 < (4 : Int) → (inR s0) ∧ (inR 4) ∧ ((s0 < (4 : Int) → ((1 : Int) = 0 ∨ (1 : Int) = 1) ∧ (0 ≤ x2 ∧ x2 < 4) ∧ (0 ≤ x2 ∧ x2 < 4) ∧ (inR x1) ∧ ((x1 = 0 → Q (.inl none) (z_cfg (ts, te, tt, b1, b2, b3, b4, b5, true), z_u (z_u I (z_md (true)) 10 1) (z_mf (true) 11) (x2).toNat (zor (I (z_mf (true) 11) (x2).toNat) (zshl 1 s0)), J)) ∧ (¬ x1 = 0 → (0 ≤ s0 ∧ s0 < 4) ∧ (0 ≤ s0 ∧ s0 < 4) ∧ Q (.inl none) (z_cfg (ts, te, tt, b1, b2, b3, b4, b5, true), z_u (z_u (z_u I (z_md (true)) 10 1) (z_mf (true) 11) (x2).toNat (zor (I (z_mf (true) 11) (x2).toNat) (zshl 1 s0))) (z_mf (true) 11) (s0).toNat (zor ((z_u (z_u I (z_md (true)) 10 1) (z_mf (true) 11) (x2).toNat (zor (I (z_mf (true) 11) (x2).toNat) (zshl 1 s0))) (z_mf (true) 11) (s0).toNat) (zshl 1 x2)), J)))) ∧ (¬ s0 < (4 : Int) → Q (.inl none) (z_cfg (ts, te, tt, b1, b2, b3, b4, b5, true), I, J)))) ∧ (¬ x2 < (4 : Int) → Q (.inl none) (z_cfg (ts, te, tt, b1, b2, b3, b4, b5, true), I, J)))) ∧ (¬ I 805 7 = 0 → Q (.inl none) (z_cfg (ts, te, tt, b1, b2, b3, b4, b5, true), I, J))) from ⟨h.1, ⟨fun c0 => ⟨(h.2.1 c0).1, ⟨⟨by decide, by decide⟩, ⟨fun c1 => ⟨((h.2.1 c0).2.1 c1).1, ⟨⟨by decide, by decide⟩, ⟨fun c2 => ⟨by decide, ⟨(((h.2.1 c0).2.1 c1).2.1 c2).1, ⟨(((h.2.1 c0).2.1 c1).2.1 c2).1, ⟨(((h.2.1 c0).2.1 c1).2.1 c2).2.1, ⟨fun c3 => ((((h.2.1 c0).2.1 c1).2.1 c2).2.2.1 c3), fun c3 => ⟨((((h.2.1 c0).2.1 c1).2.1 c2).2.2.2 c3).1, ⟨((((h.2.1 c0).2.1 c1).2.1 c2).2.2.2 c3).1, ((((h.2.1 c0).2.1 c1).2.1 c2).2.2.2 c3).2⟩⟩⟩⟩⟩⟩⟩, fun c2 => (((h.2.1 c0).2.1 c1).2.2 c2)⟩⟩⟩, fun c1 => ((h.2.1 c0).2.2 c1)⟩⟩⟩, fun c0 => (h.2.2 c0)⟩⟩)
theorem c117 {x1 : Int} {w : zW} {K : zR → zW → Prop} (hd : 1 ≤ d) (h : ∀ d', d = d' + 1 → Go sc d' mt_117 0 [vr 805, vi x1, vn, vn] [] w K) : Cl sc d 117 [vr 805, vi x1] w K := Cl_of rfl hd h
/-! FerryHall$Reader readLamp ()V -/
set_option maxRecDepth 8000 in
theorem b118_0 (h : (inR (I (z_md (t_eb t)) 9)) ∧ ((I (z_md (t_eb t)) 9 = ((-1) : Int) → Cl sc d 98 [vr 805] (z_cfg t, I, J) (z_k sc d mt_118 false 18 [vr 805] [] Q)) ∧ (¬ I (z_md (t_eb t)) 9 = ((-1) : Int) → Cl sc d 106 [vr 805, vi 5] (z_cfg t, I, J) (z_k sc d mt_118 false 13 [vr 805] [] Q)))) : Go sc d mt_118 0 [vr 805] [] (z_cfg t, I, J) Q := by
  obtain ⟨ts, te, tt, b1, b2, b3, b4, b5, b6⟩ := t
  cases b6
  · exact z_sound (f := false) (cuts := []) 300 0 [vr 805] [] (z_tab (ts, te, tt, b1, b2, b3, b4, b5, false) ++ t_l (ts, te, tt, b1, b2, b3, b4, b5, false), t_s (ts, te, tt, b1, b2, b3, b4, b5, false), I, J) (show (inR (I (z_md (false)) 9)) ∧ (inR (-1)) ∧ ((I (z_md (false)) 9 = ((-1) : Int) → Cl sc d 98 [vr 805] (z_cfg (ts, te, tt, b1, b2, b3, b4, b5, false), I, J) (z_k sc d mt_118 false 18 [vr 805] [] Q)) ∧ (¬ I (z_md (false)) 9 = ((-1) : Int) → Cl sc d 106 [vr 805, vi 5] (z_cfg (ts, te, tt, b1, b2, b3, b4, b5, false), I, J) (z_k sc d mt_118 false 13 [vr 805] [] Q))) from ⟨h.1, ⟨⟨by decide, by decide⟩, ⟨fun c0 => (h.2.1 c0), fun c0 => (h.2.2 c0)⟩⟩⟩)
  · exact z_sound (f := false) (cuts := []) 300 0 [vr 805] [] (z_tab (ts, te, tt, b1, b2, b3, b4, b5, true) ++ t_l (ts, te, tt, b1, b2, b3, b4, b5, true), t_s (ts, te, tt, b1, b2, b3, b4, b5, true), I, J) (show (inR (I (z_md (true)) 9)) ∧ (inR (-1)) ∧ ((I (z_md (true)) 9 = ((-1) : Int) → Cl sc d 98 [vr 805] (z_cfg (ts, te, tt, b1, b2, b3, b4, b5, true), I, J) (z_k sc d mt_118 false 18 [vr 805] [] Q)) ∧ (¬ I (z_md (true)) 9 = ((-1) : Int) → Cl sc d 106 [vr 805, vi 5] (z_cfg (ts, te, tt, b1, b2, b3, b4, b5, true), I, J) (z_k sc d mt_118 false 13 [vr 805] [] Q))) from ⟨h.1, ⟨⟨by decide, by decide⟩, ⟨fun c0 => (h.2.1 c0), fun c0 => (h.2.2 c0)⟩⟩⟩)
set_option maxRecDepth 8000 in
theorem b118_16 (h : Q (.inl none) (z_cfg t, I, J)) : Go sc d mt_118 16 [vr 805] [] (z_cfg t, I, J) Q := by
  obtain ⟨ts, te, tt, b1, b2, b3, b4, b5, b6⟩ := t
  · exact z_sound (f := false) (cuts := []) 300 16 [vr 805] [] (z_tab (ts, te, tt, b1, b2, b3, b4, b5, b6) ++ t_l (ts, te, tt, b1, b2, b3, b4, b5, b6), t_s (ts, te, tt, b1, b2, b3, b4, b5, b6), I, J) h
set_option maxRecDepth 8000 in
theorem b118_21 (h : Cl sc d 114 [vr 805, vr 857] (z_cfg t, I, J) (z_k sc d mt_118 false 24 [vr 805] [] Q)) : Go sc d mt_118 21 [vr 805] [] (z_cfg t, I, J) Q := by
  obtain ⟨ts, te, tt, b1, b2, b3, b4, b5, b6⟩ := t
  · exact z_sound (f := false) (cuts := []) 300 21 [vr 805] [] (z_tab (ts, te, tt, b1, b2, b3, b4, b5, b6) ++ t_l (ts, te, tt, b1, b2, b3, b4, b5, b6), t_s (ts, te, tt, b1, b2, b3, b4, b5, b6), I, J) h
set_option maxRecDepth 8000 in
theorem b118_27 (h : Cl sc d 116 [vr 805, vi (-1)] (z_cfg t, I, J) (z_k sc d mt_118 false 33 [vr 805] [vr (z_md (t_eb t))] Q)) : Go sc d mt_118 27 [vr 805] [] (z_cfg t, I, J) Q := by
  obtain ⟨ts, te, tt, b1, b2, b3, b4, b5, b6⟩ := t
  cases b6
  · exact z_sound (f := false) (cuts := []) 300 27 [vr 805] [] (z_tab (ts, te, tt, b1, b2, b3, b4, b5, false) ++ t_l (ts, te, tt, b1, b2, b3, b4, b5, false), t_s (ts, te, tt, b1, b2, b3, b4, b5, false), I, J) h
  · exact z_sound (f := false) (cuts := []) 300 27 [vr 805] [] (z_tab (ts, te, tt, b1, b2, b3, b4, b5, true) ++ t_l (ts, te, tt, b1, b2, b3, b4, b5, true), t_s (ts, te, tt, b1, b2, b3, b4, b5, true), I, J) h
set_option maxRecDepth 8000 in
theorem b118_36 {s0 : Int} (h : Q (.inl none) (z_cfg t, z_u I (z_md (t_eb t)) 9 s0, J)) : Go sc d mt_118 36 [vr 805] [vi s0, vr (z_md (t_eb t))] (z_cfg t, I, J) Q := by
  obtain ⟨ts, te, tt, b1, b2, b3, b4, b5, b6⟩ := t
  cases b6
  · exact z_sound (f := false) (cuts := []) 300 36 [vr 805] [vi s0, vr (z_md (false))] (z_tab (ts, te, tt, b1, b2, b3, b4, b5, false) ++ t_l (ts, te, tt, b1, b2, b3, b4, b5, false), t_s (ts, te, tt, b1, b2, b3, b4, b5, false), I, J) h
  · exact z_sound (f := false) (cuts := []) 300 36 [vr 805] [vi s0, vr (z_md (true))] (z_tab (ts, te, tt, b1, b2, b3, b4, b5, true) ++ t_l (ts, te, tt, b1, b2, b3, b4, b5, true), t_s (ts, te, tt, b1, b2, b3, b4, b5, true), I, J) h
theorem c118 {w : zW} {K : zR → zW → Prop} (hd : 1 ≤ d) (h : ∀ d', d = d' + 1 → Go sc d' mt_118 0 [vr 805] [] w K) : Cl sc d 118 [vr 805] w K := Cl_of rfl hd h
/-! FerryHall$Reader readLaw ()V -/
set_option maxRecDepth 8000 in
theorem b119_0 (h : (inR (I (z_md (t_eb t)) 12)) ∧ ((I (z_md (t_eb t)) 12 < 0 → Go sc d mt_119 18 [vr 805, vi (I (z_md (t_eb t)) 12), vn] [] (z_cfg t, I, J) Q) ∧ (¬ I (z_md (t_eb t)) 12 < 0 → (I (z_md (t_eb t)) 12 < (12 : Int) → Cl sc d 98 [vr 805] (z_cfg t, I, J) (z_k sc d mt_119 false 25 [vr 805, vi (I (z_md (t_eb t)) 12), vn] [] Q)) ∧ (¬ I (z_md (t_eb t)) 12 < (12 : Int) → Go sc d mt_119 18 [vr 805, vi (I (z_md (t_eb t)) 12), vn] [] (z_cfg t, I, J) Q)))) : Go sc d mt_119 0 [vr 805, vn, vn] [] (z_cfg t, I, J) Q := by
  obtain ⟨ts, te, tt, b1, b2, b3, b4, b5, b6⟩ := t
  cases b6
  · exact z_sound (f := false) (cuts := [18, 97]) 300 0 [vr 805, vn, vn] [] (z_tab (ts, te, tt, b1, b2, b3, b4, b5, false) ++ t_l (ts, te, tt, b1, b2, b3, b4, b5, false), t_s (ts, te, tt, b1, b2, b3, b4, b5, false), I, J) (show (inR (I (z_md (false)) 12)) ∧ ((I (z_md (false)) 12 < 0 → Go sc d mt_119 18 [vr 805, vi (I (z_md (false)) 12), vn] [] (z_cfg (ts, te, tt, b1, b2, b3, b4, b5, false), I, J) Q) ∧ (¬ I (z_md (false)) 12 < 0 → (inR (I (z_md (false)) 12)) ∧ (inR 12) ∧ ((I (z_md (false)) 12 < (12 : Int) → Cl sc d 98 [vr 805] (z_cfg (ts, te, tt, b1, b2, b3, b4, b5, false), I, J) (z_k sc d mt_119 false 25 [vr 805, vi (I (z_md (false)) 12), vn] [] Q)) ∧ (¬ I (z_md (false)) 12 < (12 : Int) → Go sc d mt_119 18 [vr 805, vi (I (z_md (false)) 12), vn] [] (z_cfg (ts, te, tt, b1, b2, b3, b4, b5, false), I, J) Q)))) from ⟨h.1, ⟨fun c0 => (h.2.1 c0), fun c0 => ⟨h.1, ⟨⟨by decide, by decide⟩, ⟨fun c1 => ((h.2.2 c0).1 c1), fun c1 => ((h.2.2 c0).2 c1)⟩⟩⟩⟩⟩)
  · exact z_sound (f := false) (cuts := [18, 97]) 300 0 [vr 805, vn, vn] [] (z_tab (ts, te, tt, b1, b2, b3, b4, b5, true) ++ t_l (ts, te, tt, b1, b2, b3, b4, b5, true), t_s (ts, te, tt, b1, b2, b3, b4, b5, true), I, J) (show (inR (I (z_md (true)) 12)) ∧ ((I (z_md (true)) 12 < 0 → Go sc d mt_119 18 [vr 805, vi (I (z_md (true)) 12), vn] [] (z_cfg (ts, te, tt, b1, b2, b3, b4, b5, true), I, J) Q) ∧ (¬ I (z_md (true)) 12 < 0 → (inR (I (z_md (true)) 12)) ∧ (inR 12) ∧ ((I (z_md (true)) 12 < (12 : Int) → Cl sc d 98 [vr 805] (z_cfg (ts, te, tt, b1, b2, b3, b4, b5, true), I, J) (z_k sc d mt_119 false 25 [vr 805, vi (I (z_md (true)) 12), vn] [] Q)) ∧ (¬ I (z_md (true)) 12 < (12 : Int) → Go sc d mt_119 18 [vr 805, vi (I (z_md (true)) 12), vn] [] (z_cfg (ts, te, tt, b1, b2, b3, b4, b5, true), I, J) Q)))) from ⟨h.1, ⟨fun c0 => (h.2.1 c0), fun c0 => ⟨h.1, ⟨⟨by decide, by decide⟩, ⟨fun c1 => ((h.2.2 c0).1 c1), fun c1 => ((h.2.2 c0).2 c1)⟩⟩⟩⟩⟩)
set_option maxRecDepth 8000 in
theorem b119_18 {x1 : Int} (h : Cl sc d 106 [vr 805, vi 2] (z_cfg t, I, J) (z_k sc d mt_119 false 20 [vr 805, vi x1, vn] [] Q)) : Go sc d mt_119 18 [vr 805, vi x1, vn] [] (z_cfg t, I, J) Q := by
  obtain ⟨ts, te, tt, b1, b2, b3, b4, b5, b6⟩ := t
  · exact z_sound (f := false) (cuts := [18, 97]) 300 18 [vr 805, vi x1, vn] [] (z_tab (ts, te, tt, b1, b2, b3, b4, b5, b6) ++ t_l (ts, te, tt, b1, b2, b3, b4, b5, b6), t_s (ts, te, tt, b1, b2, b3, b4, b5, b6), I, J) h
set_option maxRecDepth 8000 in
theorem b119_23 {x1 : Int} (h : Q (.inl none) (z_cfg t, I, J)) : Go sc d mt_119 23 [vr 805, vi x1, vn] [] (z_cfg t, I, J) Q := by
  obtain ⟨ts, te, tt, b1, b2, b3, b4, b5, b6⟩ := t
  · exact z_sound (f := false) (cuts := [18, 97]) 300 23 [vr 805, vi x1, vn] [] (z_tab (ts, te, tt, b1, b2, b3, b4, b5, b6) ++ t_l (ts, te, tt, b1, b2, b3, b4, b5, b6), t_s (ts, te, tt, b1, b2, b3, b4, b5, b6), I, J) h
set_option maxRecDepth 8000 in
theorem b119_28 {x1 : Int} (h : (0 ≤ x1 ∧ x1 < 13) ∧ Cl sc d 120 [vr 805, vi 0, vi 0] (z_cfg t, z_u I (z_mf (t_eb t) 14) (x1).toNat (I (z_md (t_eb t)) 16), J) (z_k sc d mt_119 false 47 [vr 805, vi x1, vn] [] Q)) : Go sc d mt_119 28 [vr 805, vi x1, vn] [] (z_cfg t, I, J) Q := by
  obtain ⟨ts, te, tt, b1, b2, b3, b4, b5, b6⟩ := t
  cases b6
  · exact z_sound (f := false) (cuts := [18, 97]) 300 28 [vr 805, vi x1, vn] [] (z_tab (ts, te, tt, b1, b2, b3, b4, b5, false) ++ t_l (ts, te, tt, b1, b2, b3, b4, b5, false), t_s (ts, te, tt, b1, b2, b3, b4, b5, false), I, J) h
  · exact z_sound (f := false) (cuts := [18, 97]) 300 28 [vr 805, vi x1, vn] [] (z_tab (ts, te, tt, b1, b2, b3, b4, b5, true) ++ t_l (ts, te, tt, b1, b2, b3, b4, b5, true), t_s (ts, te, tt, b1, b2, b3, b4, b5, true), I, J) h
set_option maxRecDepth 8000 in
theorem b119_50 {x1 : Int} (h : Cl sc d 103 [vr 805, vr 889] (z_cfg t, I, J) (z_k sc d mt_119 false 55 [vr 805, vi x1, vi (-1)] [] Q)) : Go sc d mt_119 50 [vr 805, vi x1, vn] [] (z_cfg t, I, J) Q := by
  obtain ⟨ts, te, tt, b1, b2, b3, b4, b5, b6⟩ := t
  · exact z_sound (f := false) (cuts := [18, 97]) 300 50 [vr 805, vi x1, vn] [] (z_tab (ts, te, tt, b1, b2, b3, b4, b5, b6) ++ t_l (ts, te, tt, b1, b2, b3, b4, b5, b6), t_s (ts, te, tt, b1, b2, b3, b4, b5, b6), I, J) h
set_option maxRecDepth 8000 in
theorem b119_58 {x1 x2 s0 : Int} (h : (inR s0) ∧ ((s0 = 0 → Cl sc d 103 [vr 805, vr 921] (z_cfg t, I, J) (z_k sc d mt_119 false 70 [vr 805, vi x1, vi x2] [] Q)) ∧ (¬ s0 = 0 → Go sc d mt_119 97 [vr 805, vi x1, vi (-2)] [] (z_cfg t, I, J) Q))) : Go sc d mt_119 58 [vr 805, vi x1, vi x2] [vi s0] (z_cfg t, I, J) Q := by
  obtain ⟨ts, te, tt, b1, b2, b3, b4, b5, b6⟩ := t
  · exact z_sound (f := false) (cuts := [18, 97]) 300 58 [vr 805, vi x1, vi x2] [vi s0] (z_tab (ts, te, tt, b1, b2, b3, b4, b5, b6) ++ t_l (ts, te, tt, b1, b2, b3, b4, b5, b6), t_s (ts, te, tt, b1, b2, b3, b4, b5, b6), I, J) h
set_option maxRecDepth 8000 in
theorem b119_73 {x1 x2 s0 : Int} (h : (inR s0) ∧ ((s0 = 0 → Cl sc d 103 [vr 805, vr 857] (z_cfg t, I, J) (z_k sc d mt_119 false 85 [vr 805, vi x1, vi x2] [] Q)) ∧ (¬ s0 = 0 → Go sc d mt_119 97 [vr 805, vi x1, vi (-3)] [] (z_cfg t, I, J) Q))) : Go sc d mt_119 73 [vr 805, vi x1, vi x2] [vi s0] (z_cfg t, I, J) Q := by
  obtain ⟨ts, te, tt, b1, b2, b3, b4, b5, b6⟩ := t
  · exact z_sound (f := false) (cuts := [18, 97]) 300 73 [vr 805, vi x1, vi x2] [vi s0] (z_tab (ts, te, tt, b1, b2, b3, b4, b5, b6) ++ t_l (ts, te, tt, b1, b2, b3, b4, b5, b6), t_s (ts, te, tt, b1, b2, b3, b4, b5, b6), I, J) h
set_option maxRecDepth 8000 in
theorem b119_88 {x1 x2 s0 : Int} (h : (inR s0) ∧ ((s0 = 0 → Go sc d mt_119 97 [vr 805, vi x1, vi x2] [] (z_cfg t, I, J) Q) ∧ (¬ s0 = 0 → Cl sc d 116 [vr 805, vi (-1)] (z_cfg t, I, J) (z_k sc d mt_119 false 93 [vr 805, vi x1, vi x2] [] Q)))) : Go sc d mt_119 88 [vr 805, vi x1, vi x2] [vi s0] (z_cfg t, I, J) Q := by
  obtain ⟨ts, te, tt, b1, b2, b3, b4, b5, b6⟩ := t
  · exact z_sound (f := false) (cuts := [18, 97]) 300 88 [vr 805, vi x1, vi x2] [vi s0] (z_tab (ts, te, tt, b1, b2, b3, b4, b5, b6) ++ t_l (ts, te, tt, b1, b2, b3, b4, b5, b6), t_s (ts, te, tt, b1, b2, b3, b4, b5, b6), I, J) h
set_option maxRecDepth 8000 in
theorem b119_96 {x1 x2 s0 : Int} (h : Go sc d mt_119 97 [vr 805, vi x1, vi s0] [] (z_cfg t, I, J) Q) : Go sc d mt_119 96 [vr 805, vi x1, vi x2] [vi s0] (z_cfg t, I, J) Q := by
  obtain ⟨ts, te, tt, b1, b2, b3, b4, b5, b6⟩ := t
  · exact z_sound (f := false) (cuts := [18, 97]) 300 96 [vr 805, vi x1, vi x2] [vi s0] (z_tab (ts, te, tt, b1, b2, b3, b4, b5, b6) ++ t_l (ts, te, tt, b1, b2, b3, b4, b5, b6), t_s (ts, te, tt, b1, b2, b3, b4, b5, b6), I, J) h
set_option maxRecDepth 8000 in
theorem b119_97 {x1 x2 : Int} (h : (0 ≤ x1 ∧ x1 < 12) ∧ ((0 ≤ x1 + 1 ∧ x1 + 1 < 13) ∧ Q (.inl none) (z_cfg t, z_u (z_u (z_u I (z_mf (t_eb t) 13) (x1).toNat x2) (z_mf (t_eb t) 14) (x1 + 1).toNat (I (z_md (t_eb t)) 16)) (z_md (t_eb t)) 12 (x1 + 1), J))) : Go sc d mt_119 97 [vr 805, vi x1, vi x2] [] (z_cfg t, I, J) Q := by
  obtain ⟨ts, te, tt, b1, b2, b3, b4, b5, b6⟩ := t
  cases b6
  · exact z_sound (f := false) (cuts := [18, 97]) 300 97 [vr 805, vi x1, vi x2] [] (z_tab (ts, te, tt, b1, b2, b3, b4, b5, false) ++ t_l (ts, te, tt, b1, b2, b3, b4, b5, false), t_s (ts, te, tt, b1, b2, b3, b4, b5, false), I, J) h
  · exact z_sound (f := false) (cuts := [18, 97]) 300 97 [vr 805, vi x1, vi x2] [] (z_tab (ts, te, tt, b1, b2, b3, b4, b5, true) ++ t_l (ts, te, tt, b1, b2, b3, b4, b5, true), t_s (ts, te, tt, b1, b2, b3, b4, b5, true), I, J) h
theorem c119 {w : zW} {K : zR → zW → Prop} (hd : 1 ≤ d) (h : ∀ d', d = d' + 1 → Go sc d' mt_119 0 [vr 805, vn, vn] [] w K) : Cl sc d 119 [vr 805] w K := Cl_of rfl hd h
/-! FerryHall$Reader readExpr (II)V -/
set_option maxRecDepth 8000 in
theorem b120_0 {x1 x2 : Int} (h : (inR x1) ∧ ((x1 = (2 : Int) → Cl sc d 121 [vr 805, vi x2] (z_cfg t, I, J) (z_k sc d mt_120 false 7 [vr 805, vi x1, vi x2] [] Q)) ∧ (¬ x1 = (2 : Int) → (x1 < (5 : Int) → Cl sc d 129 [vr 805, vi x1, vi x2] (z_cfg t, I, J) (z_k sc d mt_120 false 29 [vr 805, vi x1, vi x2] [] Q)) ∧ (¬ x1 < (5 : Int) → Cl sc d 125 [vr 805, vi x2] (z_cfg t, I, J) (z_k sc d mt_120 false 20 [vr 805, vi x1, vi x2] [] Q))))) : Go sc d mt_120 0 [vr 805, vi x1, vi x2] [] (z_cfg t, I, J) Q := by
  obtain ⟨ts, te, tt, b1, b2, b3, b4, b5, b6⟩ := t
  · exact z_sound (f := false) (cuts := []) 300 0 [vr 805, vi x1, vi x2] [] (z_tab (ts, te, tt, b1, b2, b3, b4, b5, b6) ++ t_l (ts, te, tt, b1, b2, b3, b4, b5, b6), t_s (ts, te, tt, b1, b2, b3, b4, b5, b6), I, J) (show (inR x1) ∧ (inR 2) ∧ ((x1 = (2 : Int) → Cl sc d 121 [vr 805, vi x2] (z_cfg (ts, te, tt, b1, b2, b3, b4, b5, b6), I, J) (z_k sc d mt_120 false 7 [vr 805, vi x1, vi x2] [] Q)) ∧ (¬ x1 = (2 : Int) → (inR x1) ∧ (inR 5) ∧ ((x1 < (5 : Int) → Cl sc d 129 [vr 805, vi x1, vi x2] (z_cfg (ts, te, tt, b1, b2, b3, b4, b5, b6), I, J) (z_k sc d mt_120 false 29 [vr 805, vi x1, vi x2] [] Q)) ∧ (¬ x1 < (5 : Int) → Cl sc d 125 [vr 805, vi x2] (z_cfg (ts, te, tt, b1, b2, b3, b4, b5, b6), I, J) (z_k sc d mt_120 false 20 [vr 805, vi x1, vi x2] [] Q))))) from ⟨h.1, ⟨⟨by decide, by decide⟩, ⟨fun c0 => (h.2.1 c0), fun c0 => ⟨h.1, ⟨⟨by decide, by decide⟩, ⟨fun c1 => ((h.2.2 c0).1 c1), fun c1 => ((h.2.2 c0).2 c1)⟩⟩⟩⟩⟩⟩)
set_option maxRecDepth 8000 in
theorem b120_10 {x1 x2 : Int} (h : Q (.inl none) (z_cfg t, I, J)) : Go sc d mt_120 10 [vr 805, vi x1, vi x2] [] (z_cfg t, I, J) Q := by
  obtain ⟨ts, te, tt, b1, b2, b3, b4, b5, b6⟩ := t
  · exact z_sound (f := false) (cuts := []) 300 10 [vr 805, vi x1, vi x2] [] (z_tab (ts, te, tt, b1, b2, b3, b4, b5, b6) ++ t_l (ts, te, tt, b1, b2, b3, b4, b5, b6), t_s (ts, te, tt, b1, b2, b3, b4, b5, b6), I, J) h
set_option maxRecDepth 8000 in
theorem b120_23 {x1 x2 : Int} (h : Q (.inl none) (z_cfg t, I, J)) : Go sc d mt_120 23 [vr 805, vi x1, vi x2] [] (z_cfg t, I, J) Q := by
  obtain ⟨ts, te, tt, b1, b2, b3, b4, b5, b6⟩ := t
  · exact z_sound (f := false) (cuts := []) 300 23 [vr 805, vi x1, vi x2] [] (z_tab (ts, te, tt, b1, b2, b3, b4, b5, b6) ++ t_l (ts, te, tt, b1, b2, b3, b4, b5, b6), t_s (ts, te, tt, b1, b2, b3, b4, b5, b6), I, J) h
set_option maxRecDepth 8000 in
theorem b120_32 {x1 x2 : Int} (h : Q (.inl none) (z_cfg t, I, J)) : Go sc d mt_120 32 [vr 805, vi x1, vi x2] [] (z_cfg t, I, J) Q := by
  obtain ⟨ts, te, tt, b1, b2, b3, b4, b5, b6⟩ := t
  · exact z_sound (f := false) (cuts := []) 300 32 [vr 805, vi x1, vi x2] [] (z_tab (ts, te, tt, b1, b2, b3, b4, b5, b6) ++ t_l (ts, te, tt, b1, b2, b3, b4, b5, b6), t_s (ts, te, tt, b1, b2, b3, b4, b5, b6), I, J) h
theorem c120 {x1 x2 : Int} {w : zW} {K : zR → zW → Prop} (hd : 1 ≤ d) (h : ∀ d', d = d' + 1 → Go sc d' mt_120 0 [vr 805, vi x1, vi x2] [] w K) : Cl sc d 120 [vr 805, vi x1, vi x2] w K := Cl_of rfl hd h
/-! FerryHall$Reader readNot (I)V -/
set_option maxRecDepth 8000 in
theorem b121_0 {x1 : Int} (h : Go sc d mt_121 2 [vr 805, vi x1, vi 0, vn, vn] [] (z_cfg t, I, J) Q) : Go sc d mt_121 0 [vr 805, vi x1, vn, vn, vn] [] (z_cfg t, I, J) Q := by
  obtain ⟨ts, te, tt, b1, b2, b3, b4, b5, b6⟩ := t
  · exact z_sound (f := false) (cuts := [2, 23, 43, 75, 78]) 300 0 [vr 805, vi x1, vn, vn, vn] [] (z_tab (ts, te, tt, b1, b2, b3, b4, b5, b6) ++ t_l (ts, te, tt, b1, b2, b3, b4, b5, b6), t_s (ts, te, tt, b1, b2, b3, b4, b5, b6), I, J) h
set_option maxRecDepth 8000 in
theorem b121_2 {x1 x2 : Int} (h : (inR x2) ∧ ((x2 < (6 : Int) → Cl sc d 103 [vr 805, vr 1017] (z_cfg t, I, J) (z_k sc d mt_121 false 11 [vr 805, vi x1, vi x2, vn, vn] [] Q)) ∧ (¬ x2 < (6 : Int) → Go sc d mt_121 23 [vr 805, vi x1, vi x2, vn, vn] [] (z_cfg t, I, J) Q))) : Go sc d mt_121 2 [vr 805, vi x1, vi x2, vn, vn] [] (z_cfg t, I, J) Q := by
  obtain ⟨ts, te, tt, b1, b2, b3, b4, b5, b6⟩ := t
  · exact z_sound (f := false) (cuts := [2, 23, 43, 75, 78]) 300 2 [vr 805, vi x1, vi x2, vn, vn] [] (z_tab (ts, te, tt, b1, b2, b3, b4, b5, b6) ++ t_l (ts, te, tt, b1, b2, b3, b4, b5, b6), t_s (ts, te, tt, b1, b2, b3, b4, b5, b6), I, J) (show (inR x2) ∧ (inR 6) ∧ ((x2 < (6 : Int) → Cl sc d 103 [vr 805, vr 1017] (z_cfg (ts, te, tt, b1, b2, b3, b4, b5, b6), I, J) (z_k sc d mt_121 false 11 [vr 805, vi x1, vi x2, vn, vn] [] Q)) ∧ (¬ x2 < (6 : Int) → Go sc d mt_121 23 [vr 805, vi x1, vi x2, vn, vn] [] (z_cfg (ts, te, tt, b1, b2, b3, b4, b5, b6), I, J) Q)) from ⟨h.1, ⟨⟨by decide, by decide⟩, ⟨fun c0 => (h.2.1 c0), fun c0 => (h.2.2 c0)⟩⟩⟩)
set_option maxRecDepth 8000 in
theorem b121_14 {x1 x2 s0 : Int} (h : (inR s0) ∧ ((s0 = 0 → Go sc d mt_121 23 [vr 805, vi x1, vi x2, vn, vn] [] (z_cfg t, I, J) Q) ∧ (¬ s0 = 0 → Go sc d mt_121 2 [vr 805, vi x1, vi (x2 + 1), vn, vn] [] (z_cfg t, I, J) Q))) : Go sc d mt_121 14 [vr 805, vi x1, vi x2, vn, vn] [vi s0] (z_cfg t, I, J) Q := by
  obtain ⟨ts, te, tt, b1, b2, b3, b4, b5, b6⟩ := t
  · exact z_sound (f := false) (cuts := [2, 23, 43, 75, 78]) 300 14 [vr 805, vi x1, vi x2, vn, vn] [vi s0] (z_tab (ts, te, tt, b1, b2, b3, b4, b5, b6) ++ t_l (ts, te, tt, b1, b2, b3, b4, b5, b6), t_s (ts, te, tt, b1, b2, b3, b4, b5, b6), I, J) h
set_option maxRecDepth 8000 in
theorem b121_23 {x1 x2 : Int} (h : (inR x2) ∧ ((x2 = (6 : Int) → Cl sc d 104 [vr 805, vr 1017] (z_cfg t, I, J) (z_k sc d mt_121 false 32 [vr 805, vi x1, vi x2, vn, vn] [] Q)) ∧ (¬ x2 = (6 : Int) → Go sc d mt_121 43 [vr 805, vi x1, vi x2, vn, vn] [] (z_cfg t, I, J) Q))) : Go sc d mt_121 23 [vr 805, vi x1, vi x2, vn, vn] [] (z_cfg t, I, J) Q := by
  obtain ⟨ts, te, tt, b1, b2, b3, b4, b5, b6⟩ := t
  · exact z_sound (f := false) (cuts := [2, 23, 43, 75, 78]) 300 23 [vr 805, vi x1, vi x2, vn, vn] [] (z_tab (ts, te, tt, b1, b2, b3, b4, b5, b6) ++ t_l (ts, te, tt, b1, b2, b3, b4, b5, b6), t_s (ts, te, tt, b1, b2, b3, b4, b5, b6), I, J) (show (inR x2) ∧ (inR 6) ∧ ((x2 = (6 : Int) → Cl sc d 104 [vr 805, vr 1017] (z_cfg (ts, te, tt, b1, b2, b3, b4, b5, b6), I, J) (z_k sc d mt_121 false 32 [vr 805, vi x1, vi x2, vn, vn] [] Q)) ∧ (¬ x2 = (6 : Int) → Go sc d mt_121 43 [vr 805, vi x1, vi x2, vn, vn] [] (z_cfg (ts, te, tt, b1, b2, b3, b4, b5, b6), I, J) Q)) from ⟨h.1, ⟨⟨by decide, by decide⟩, ⟨fun c0 => (h.2.1 c0), fun c0 => (h.2.2 c0)⟩⟩⟩)
set_option maxRecDepth 8000 in
theorem b121_35 {x1 x2 s0 : Int} (h : (inR s0) ∧ ((s0 = 0 → Go sc d mt_121 43 [vr 805, vi x1, vi x2, vn, vn] [] (z_cfg t, I, J) Q) ∧ (¬ s0 = 0 → Cl sc d 106 [vr 805, vi 2] (z_cfg t, I, J) (z_k sc d mt_121 false 40 [vr 805, vi x1, vi x2, vn, vn] [] Q)))) : Go sc d mt_121 35 [vr 805, vi x1, vi x2, vn, vn] [vi s0] (z_cfg t, I, J) Q := by
  obtain ⟨ts, te, tt, b1, b2, b3, b4, b5, b6⟩ := t
  · exact z_sound (f := false) (cuts := [2, 23, 43, 75, 78]) 300 35 [vr 805, vi x1, vi x2, vn, vn] [vi s0] (z_tab (ts, te, tt, b1, b2, b3, b4, b5, b6) ++ t_l (ts, te, tt, b1, b2, b3, b4, b5, b6), t_s (ts, te, tt, b1, b2, b3, b4, b5, b6), I, J) h
set_option maxRecDepth 8000 in
theorem b121_43 {x1 x2 : Int} (h : Cl sc d 120 [vr 805, vi 3, vi x1] (z_cfg t, I, J) (z_k sc d mt_121 false 46 [vr 805, vi x1, vi x2, vn, vn] [] Q)) : Go sc d mt_121 43 [vr 805, vi x1, vi x2, vn, vn] [] (z_cfg t, I, J) Q := by
  obtain ⟨ts, te, tt, b1, b2, b3, b4, b5, b6⟩ := t
  · exact z_sound (f := false) (cuts := [2, 23, 43, 75, 78]) 300 43 [vr 805, vi x1, vi x2, vn, vn] [] (z_tab (ts, te, tt, b1, b2, b3, b4, b5, b6) ++ t_l (ts, te, tt, b1, b2, b3, b4, b5, b6), t_s (ts, te, tt, b1, b2, b3, b4, b5, b6), I, J) h
set_option maxRecDepth 8000 in
theorem b121_49 {x1 x2 : Int} (h : Cl sc d 122 [vr 805, vi 2] (z_cfg t, I, J) (z_k sc d mt_121 false 51 [vr 805, vi x1, vi x2, vn, vn] [] Q)) : Go sc d mt_121 49 [vr 805, vi x1, vi x2, vn, vn] [] (z_cfg t, I, J) Q := by
  obtain ⟨ts, te, tt, b1, b2, b3, b4, b5, b6⟩ := t
  · exact z_sound (f := false) (cuts := [2, 23, 43, 75, 78]) 300 49 [vr 805, vi x1, vi x2, vn, vn] [] (z_tab (ts, te, tt, b1, b2, b3, b4, b5, b6) ++ t_l (ts, te, tt, b1, b2, b3, b4, b5, b6), t_s (ts, te, tt, b1, b2, b3, b4, b5, b6), I, J) h
set_option maxRecDepth 8000 in
theorem b121_54 {x1 x2 s0 : Int} (h : (inR s0) ∧ ((s0 = ((-1) : Int) → Go sc d mt_121 75 [vr 805, vi x1, vi x2, vi s0, vn] [] (z_cfg t, I, J) Q) ∧ (¬ s0 = ((-1) : Int) → Cl sc d 98 [vr 805] (z_cfg t, I, J) (z_k sc d mt_121 false 61 [vr 805, vi x1, vi x2, vi s0, vn] [] Q)))) : Go sc d mt_121 54 [vr 805, vi x1, vi x2, vn, vn] [vi s0] (z_cfg t, I, J) Q := by
  obtain ⟨ts, te, tt, b1, b2, b3, b4, b5, b6⟩ := t
  · exact z_sound (f := false) (cuts := [2, 23, 43, 75, 78]) 300 54 [vr 805, vi x1, vi x2, vn, vn] [vi s0] (z_tab (ts, te, tt, b1, b2, b3, b4, b5, b6) ++ t_l (ts, te, tt, b1, b2, b3, b4, b5, b6), t_s (ts, te, tt, b1, b2, b3, b4, b5, b6), I, J) (show (inR s0) ∧ (inR (-1)) ∧ ((s0 = ((-1) : Int) → Go sc d mt_121 75 [vr 805, vi x1, vi x2, vi s0, vn] [] (z_cfg (ts, te, tt, b1, b2, b3, b4, b5, b6), I, J) Q) ∧ (¬ s0 = ((-1) : Int) → Cl sc d 98 [vr 805] (z_cfg (ts, te, tt, b1, b2, b3, b4, b5, b6), I, J) (z_k sc d mt_121 false 61 [vr 805, vi x1, vi x2, vi s0, vn] [] Q))) from ⟨h.1, ⟨⟨by decide, by decide⟩, ⟨fun c0 => (h.2.1 c0), fun c0 => (h.2.2 c0)⟩⟩⟩)
set_option maxRecDepth 8000 in
theorem b121_64 {x1 x2 x3 : Int} (h : Cl sc d 120 [vr 805, vi 3, vi x1] (z_cfg t, I, J) (z_k sc d mt_121 false 67 [vr 805, vi x1, vi x2, vi x3, vn] [] Q)) : Go sc d mt_121 64 [vr 805, vi x1, vi x2, vi x3, vn] [] (z_cfg t, I, J) Q := by
  obtain ⟨ts, te, tt, b1, b2, b3, b4, b5, b6⟩ := t
  · exact z_sound (f := false) (cuts := [2, 23, 43, 75, 78]) 300 64 [vr 805, vi x1, vi x2, vi x3, vn] [] (z_tab (ts, te, tt, b1, b2, b3, b4, b5, b6) ++ t_l (ts, te, tt, b1, b2, b3, b4, b5, b6), t_s (ts, te, tt, b1, b2, b3, b4, b5, b6), I, J) h
set_option maxRecDepth 8000 in
theorem b121_70 {x1 x2 x3 : Int} (h : Cl sc d 124 [vr 805, vi x3] (z_cfg t, I, J) (z_k sc d mt_121 false 72 [vr 805, vi x1, vi x2, vi x3, vn] [] Q)) : Go sc d mt_121 70 [vr 805, vi x1, vi x2, vi x3, vn] [] (z_cfg t, I, J) Q := by
  obtain ⟨ts, te, tt, b1, b2, b3, b4, b5, b6⟩ := t
  · exact z_sound (f := false) (cuts := [2, 23, 43, 75, 78]) 300 70 [vr 805, vi x1, vi x2, vi x3, vn] [] (z_tab (ts, te, tt, b1, b2, b3, b4, b5, b6) ++ t_l (ts, te, tt, b1, b2, b3, b4, b5, b6), t_s (ts, te, tt, b1, b2, b3, b4, b5, b6), I, J) h
set_option maxRecDepth 8000 in
theorem b121_75 {x1 x2 x3 : Int} (h : Go sc d mt_121 78 [vr 805, vi x1, vi x2, vi x3, vi 0] [] (z_cfg t, I, J) Q) : Go sc d mt_121 75 [vr 805, vi x1, vi x2, vi x3, vn] [] (z_cfg t, I, J) Q := by
  obtain ⟨ts, te, tt, b1, b2, b3, b4, b5, b6⟩ := t
  · exact z_sound (f := false) (cuts := [2, 23, 43, 75, 78]) 300 75 [vr 805, vi x1, vi x2, vi x3, vn] [] (z_tab (ts, te, tt, b1, b2, b3, b4, b5, b6) ++ t_l (ts, te, tt, b1, b2, b3, b4, b5, b6), t_s (ts, te, tt, b1, b2, b3, b4, b5, b6), I, J) h
set_option maxRecDepth 8000 in
theorem b121_78 {x1 x2 x3 x4 : Int} (h : (inR x4) ∧ ((inR x2) ∧ ((x4 < x2 → Cl sc d 124 [vr 805, vi 1208] (z_cfg t, I, J) (z_k sc d mt_121 false 88 [vr 805, vi x1, vi x2, vi x3, vi x4] [] Q)) ∧ (¬ x4 < x2 → Q (.inl none) (z_cfg t, I, J))))) : Go sc d mt_121 78 [vr 805, vi x1, vi x2, vi x3, vi x4] [] (z_cfg t, I, J) Q := by
  obtain ⟨ts, te, tt, b1, b2, b3, b4, b5, b6⟩ := t
  · exact z_sound (f := false) (cuts := [2, 23, 43, 75, 78]) 300 78 [vr 805, vi x1, vi x2, vi x3, vi x4] [] (z_tab (ts, te, tt, b1, b2, b3, b4, b5, b6) ++ t_l (ts, te, tt, b1, b2, b3, b4, b5, b6), t_s (ts, te, tt, b1, b2, b3, b4, b5, b6), I, J) h
set_option maxRecDepth 8000 in
theorem b121_91 {x1 x2 x3 x4 : Int} (h : Go sc d mt_121 78 [vr 805, vi x1, vi x2, vi x3, vi (x4 + 1)] [] (z_cfg t, I, J) Q) : Go sc d mt_121 91 [vr 805, vi x1, vi x2, vi x3, vi x4] [] (z_cfg t, I, J) Q := by
  obtain ⟨ts, te, tt, b1, b2, b3, b4, b5, b6⟩ := t
  · exact z_sound (f := false) (cuts := [2, 23, 43, 75, 78]) 300 91 [vr 805, vi x1, vi x2, vi x3, vi x4] [] (z_tab (ts, te, tt, b1, b2, b3, b4, b5, b6) ++ t_l (ts, te, tt, b1, b2, b3, b4, b5, b6), t_s (ts, te, tt, b1, b2, b3, b4, b5, b6), I, J) h
theorem c121 {x1 : Int} {w : zW} {K : zR → zW → Prop} (hd : 1 ≤ d) (h : ∀ d', d = d' + 1 → Go sc d' mt_121 0 [vr 805, vi x1, vn, vn, vn] [] w K) : Cl sc d 121 [vr 805, vi x1] w K := Cl_of rfl hd h
/-! FerryHall$Reader operatorOf (I)I -/
set_option maxRecDepth 8000 in
theorem b122_0 {x1 : Int} (h : (inR x1) ∧ (((x1 = 0 → Cl sc d 104 [vr 805, vr 953] (z_cfg t, I, J) (z_k sc d mt_122 false 35 [vr 805, vi x1] [] Q)) ∧ (x1 = 1 → Cl sc d 104 [vr 805, vr 985] (z_cfg t, I, J) (z_k sc d mt_122 false 52 [vr 805, vi x1] [] Q)) ∧ (x1 = 2 → Cl sc d 123 [vr 805, vi 60, vi 1202, vi 61, vi 1203] (z_cfg t, I, J) (z_k sc d mt_122 false 77 [vr 805, vi x1] [] Q)) ∧ (x1 = 3 → Cl sc d 123 [vr 805, vi 43, vi 1204, vi 45, vi 1205] (z_cfg t, I, J) (z_k sc d mt_122 false 92 [vr 805, vi x1] [] Q)) ∧ True) ∧ (x1 < 0 ∨ 3 < x1 → Cl sc d 123 [vr 805, vi 42, vi 1206, vi 47, vi 1207] (z_cfg t, I, J) (z_k sc d mt_122 false 107 [vr 805, vi x1] [] Q)))) : Go sc d mt_122 0 [vr 805, vi x1] [] (z_cfg t, I, J) Q := by
  obtain ⟨ts, te, tt, b1, b2, b3, b4, b5, b6⟩ := t
  · exact z_sound (f := false) (cuts := []) 300 0 [vr 805, vi x1] [] (z_tab (ts, te, tt, b1, b2, b3, b4, b5, b6) ++ t_l (ts, te, tt, b1, b2, b3, b4, b5, b6), t_s (ts, te, tt, b1, b2, b3, b4, b5, b6), I, J) h
set_option maxRecDepth 8000 in
theorem b122_38 {x1 s0 : Int} (h : (inR s0) ∧ ((s0 = 0 → Q (.inl (some (vi (-1)))) (z_cfg t, I, J)) ∧ (¬ s0 = 0 → Q (.inl (some (vi 1200))) (z_cfg t, I, J)))) : Go sc d mt_122 38 [vr 805, vi x1] [vi s0] (z_cfg t, I, J) Q := by
  obtain ⟨ts, te, tt, b1, b2, b3, b4, b5, b6⟩ := t
  · exact z_sound (f := false) (cuts := []) 300 38 [vr 805, vi x1] [vi s0] (z_tab (ts, te, tt, b1, b2, b3, b4, b5, b6) ++ t_l (ts, te, tt, b1, b2, b3, b4, b5, b6), t_s (ts, te, tt, b1, b2, b3, b4, b5, b6), I, J) h
set_option maxRecDepth 8000 in
theorem b122_55 {x1 s0 : Int} (h : (inR s0) ∧ ((s0 = 0 → Q (.inl (some (vi (-1)))) (z_cfg t, I, J)) ∧ (¬ s0 = 0 → Q (.inl (some (vi 1201))) (z_cfg t, I, J)))) : Go sc d mt_122 55 [vr 805, vi x1] [vi s0] (z_cfg t, I, J) Q := by
  obtain ⟨ts, te, tt, b1, b2, b3, b4, b5, b6⟩ := t
  · exact z_sound (f := false) (cuts := []) 300 55 [vr 805, vi x1] [vi s0] (z_tab (ts, te, tt, b1, b2, b3, b4, b5, b6) ++ t_l (ts, te, tt, b1, b2, b3, b4, b5, b6), t_s (ts, te, tt, b1, b2, b3, b4, b5, b6), I, J) h
set_option maxRecDepth 8000 in
theorem b122_80 {x1 s0 : Int} (h : Q (.inl (some (vi s0))) (z_cfg t, I, J)) : Go sc d mt_122 80 [vr 805, vi x1] [vi s0] (z_cfg t, I, J) Q := by
  obtain ⟨ts, te, tt, b1, b2, b3, b4, b5, b6⟩ := t
  · exact z_sound (f := false) (cuts := []) 300 80 [vr 805, vi x1] [vi s0] (z_tab (ts, te, tt, b1, b2, b3, b4, b5, b6) ++ t_l (ts, te, tt, b1, b2, b3, b4, b5, b6), t_s (ts, te, tt, b1, b2, b3, b4, b5, b6), I, J) h
set_option maxRecDepth 8000 in
theorem b122_95 {x1 s0 : Int} (h : Q (.inl (some (vi s0))) (z_cfg t, I, J)) : Go sc d mt_122 95 [vr 805, vi x1] [vi s0] (z_cfg t, I, J) Q := by
  obtain ⟨ts, te, tt, b1, b2, b3, b4, b5, b6⟩ := t
  · exact z_sound (f := false) (cuts := []) 300 95 [vr 805, vi x1] [vi s0] (z_tab (ts, te, tt, b1, b2, b3, b4, b5, b6) ++ t_l (ts, te, tt, b1, b2, b3, b4, b5, b6), t_s (ts, te, tt, b1, b2, b3, b4, b5, b6), I, J) h
set_option maxRecDepth 8000 in
theorem b122_110 {x1 s0 : Int} (h : Q (.inl (some (vi s0))) (z_cfg t, I, J)) : Go sc d mt_122 110 [vr 805, vi x1] [vi s0] (z_cfg t, I, J) Q := by
  obtain ⟨ts, te, tt, b1, b2, b3, b4, b5, b6⟩ := t
  · exact z_sound (f := false) (cuts := []) 300 110 [vr 805, vi x1] [vi s0] (z_tab (ts, te, tt, b1, b2, b3, b4, b5, b6) ++ t_l (ts, te, tt, b1, b2, b3, b4, b5, b6), t_s (ts, te, tt, b1, b2, b3, b4, b5, b6), I, J) h
theorem c122 {x1 : Int} {w : zW} {K : zR → zW → Prop} (hd : 1 ≤ d) (h : ∀ d', d = d' + 1 → Go sc d' mt_122 0 [vr 805, vi x1] [] w K) : Cl sc d 122 [vr 805, vi x1] w K := Cl_of rfl hd h
/-! FerryHall$Reader oneOf (CICI)I -/
set_option maxRecDepth 8000 in
theorem b123_0 {x1 x2 x3 x4 : Int} (h : Cl sc d 108 [vr 805, vi x1] (z_cfg t, I, J) (z_k sc d mt_123 false 2 [vr 805, vi x1, vi x2, vi x3, vi x4] [] Q)) : Go sc d mt_123 0 [vr 805, vi x1, vi x2, vi x3, vi x4] [] (z_cfg t, I, J) Q := by
  obtain ⟨ts, te, tt, b1, b2, b3, b4, b5, b6⟩ := t
  · exact z_sound (f := false) (cuts := []) 300 0 [vr 805, vi x1, vi x2, vi x3, vi x4] [] (z_tab (ts, te, tt, b1, b2, b3, b4, b5, b6) ++ t_l (ts, te, tt, b1, b2, b3, b4, b5, b6), t_s (ts, te, tt, b1, b2, b3, b4, b5, b6), I, J) h
set_option maxRecDepth 8000 in
theorem b123_5 {x1 x2 x3 x4 s0 : Int} (h : (inR s0) ∧ ((s0 = 0 → Cl sc d 108 [vr 805, vi x3] (z_cfg t, I, J) (z_k sc d mt_123 false 12 [vr 805, vi x1, vi x2, vi x3, vi x4] [] Q)) ∧ (¬ s0 = 0 → Q (.inl (some (vi x2))) (z_cfg t, I, J)))) : Go sc d mt_123 5 [vr 805, vi x1, vi x2, vi x3, vi x4] [vi s0] (z_cfg t, I, J) Q := by
  obtain ⟨ts, te, tt, b1, b2, b3, b4, b5, b6⟩ := t
  · exact z_sound (f := false) (cuts := []) 300 5 [vr 805, vi x1, vi x2, vi x3, vi x4] [vi s0] (z_tab (ts, te, tt, b1, b2, b3, b4, b5, b6) ++ t_l (ts, te, tt, b1, b2, b3, b4, b5, b6), t_s (ts, te, tt, b1, b2, b3, b4, b5, b6), I, J) h
set_option maxRecDepth 8000 in
theorem b123_15 {x1 x2 x3 x4 s0 : Int} (h : (inR s0) ∧ ((s0 = 0 → Q (.inl (some (vi (-1)))) (z_cfg t, I, J)) ∧ (¬ s0 = 0 → Q (.inl (some (vi x4))) (z_cfg t, I, J)))) : Go sc d mt_123 15 [vr 805, vi x1, vi x2, vi x3, vi x4] [vi s0] (z_cfg t, I, J) Q := by
  obtain ⟨ts, te, tt, b1, b2, b3, b4, b5, b6⟩ := t
  · exact z_sound (f := false) (cuts := []) 300 15 [vr 805, vi x1, vi x2, vi x3, vi x4] [vi s0] (z_tab (ts, te, tt, b1, b2, b3, b4, b5, b6) ++ t_l (ts, te, tt, b1, b2, b3, b4, b5, b6), t_s (ts, te, tt, b1, b2, b3, b4, b5, b6), I, J) h
theorem c123 {x1 x2 x3 x4 : Int} {w : zW} {K : zR → zW → Prop} (hd : 1 ≤ d) (h : ∀ d', d = d' + 1 → Go sc d' mt_123 0 [vr 805, vi x1, vi x2, vi x3, vi x4] [] w K) : Cl sc d 123 [vr 805, vi x1, vi x2, vi x3, vi x4] w K := Cl_of rfl hd h
/-! FerryHall$Reader emit (I)V -/
set_option maxRecDepth 8000 in
theorem b124_0 {x1 : Int} (h : (inR (I (z_md (t_eb t)) 16)) ∧ ((I (z_md (t_eb t)) 16 < (700 : Int) → (0 ≤ I (z_md (t_eb t)) 16 ∧ I (z_md (t_eb t)) 16 < 700) ∧ Q (.inl none) (z_cfg t, z_u (z_u I (z_mf (t_eb t) 15) (I (z_md (t_eb t)) 16).toNat x1) (z_md (t_eb t)) 16 ((I (z_md (t_eb t)) 16) + 1), J)) ∧ (¬ I (z_md (t_eb t)) 16 < (700 : Int) → Q (.inl none) (z_cfg t, I, J)))) : Go sc d mt_124 0 [vr 805, vi x1] [] (z_cfg t, I, J) Q := by
  obtain ⟨ts, te, tt, b1, b2, b3, b4, b5, b6⟩ := t
  cases b6
  · exact z_sound (f := false) (cuts := []) 300 0 [vr 805, vi x1] [] (z_tab (ts, te, tt, b1, b2, b3, b4, b5, false) ++ t_l (ts, te, tt, b1, b2, b3, b4, b5, false), t_s (ts, te, tt, b1, b2, b3, b4, b5, false), I, J) (show (inR (I (z_md (false)) 16)) ∧ (inR 700) ∧ ((I (z_md (false)) 16 < (700 : Int) → (0 ≤ I (z_md (false)) 16 ∧ I (z_md (false)) 16 < 700) ∧ Q (.inl none) (z_cfg (ts, te, tt, b1, b2, b3, b4, b5, false), z_u (z_u I (z_mf (false) 15) (I (z_md (false)) 16).toNat x1) (z_md (false)) 16 ((I (z_md (false)) 16) + 1), J)) ∧ (¬ I (z_md (false)) 16 < (700 : Int) → Q (.inl none) (z_cfg (ts, te, tt, b1, b2, b3, b4, b5, false), I, J))) from ⟨h.1, ⟨⟨by decide, by decide⟩, ⟨fun c0 => ⟨(h.2.1 c0).1, (h.2.1 c0).2⟩, fun c0 => (h.2.2 c0)⟩⟩⟩)
  · exact z_sound (f := false) (cuts := []) 300 0 [vr 805, vi x1] [] (z_tab (ts, te, tt, b1, b2, b3, b4, b5, true) ++ t_l (ts, te, tt, b1, b2, b3, b4, b5, true), t_s (ts, te, tt, b1, b2, b3, b4, b5, true), I, J) (show (inR (I (z_md (true)) 16)) ∧ (inR 700) ∧ ((I (z_md (true)) 16 < (700 : Int) → (0 ≤ I (z_md (true)) 16 ∧ I (z_md (true)) 16 < 700) ∧ Q (.inl none) (z_cfg (ts, te, tt, b1, b2, b3, b4, b5, true), z_u (z_u I (z_mf (true) 15) (I (z_md (true)) 16).toNat x1) (z_md (true)) 16 ((I (z_md (true)) 16) + 1), J)) ∧ (¬ I (z_md (true)) 16 < (700 : Int) → Q (.inl none) (z_cfg (ts, te, tt, b1, b2, b3, b4, b5, true), I, J))) from ⟨h.1, ⟨⟨by decide, by decide⟩, ⟨fun c0 => ⟨(h.2.1 c0).1, (h.2.1 c0).2⟩, fun c0 => (h.2.2 c0)⟩⟩⟩)
theorem c124 {x1 : Int} {w : zW} {K : zR → zW → Prop} (hd : 1 ≤ d) (h : ∀ d', d = d' + 1 → Go sc d' mt_124 0 [vr 805, vi x1] [] w K) : Cl sc d 124 [vr 805, vi x1] w K := Cl_of rfl hd h
/-! FerryHall$Reader readPart (I)V -/
set_option maxRecDepth 8000 in
theorem b125_0 {x1 : Int} (h : (inR (I 805 4)) ∧ ((I 805 4 = (2 : Int) → Cl sc d 105 [vr 805, vi 0, vi 999] (z_cfg t, I, J) (z_k sc d mt_125 false 14 [vr 805, vi x1] [vr 805] Q)) ∧ (¬ I 805 4 = (2 : Int) → Cl sc d 112 [vr 805] (z_cfg t, I, J) (z_k sc d mt_125 false 24 [vr 805, vi x1] [] Q)))) : Go sc d mt_125 0 [vr 805, vi x1] [] (z_cfg t, I, J) Q := by
  obtain ⟨ts, te, tt, b1, b2, b3, b4, b5, b6⟩ := t
  · exact z_sound (f := false) (cuts := []) 300 0 [vr 805, vi x1] [] (z_tab (ts, te, tt, b1, b2, b3, b4, b5, b6) ++ t_l (ts, te, tt, b1, b2, b3, b4, b5, b6), t_s (ts, te, tt, b1, b2, b3, b4, b5, b6), I, J) (show (inR (I 805 4)) ∧ (inR 2) ∧ ((I 805 4 = (2 : Int) → Cl sc d 105 [vr 805, vi 0, vi 999] (z_cfg (ts, te, tt, b1, b2, b3, b4, b5, b6), I, J) (z_k sc d mt_125 false 14 [vr 805, vi x1] [vr 805] Q)) ∧ (¬ I 805 4 = (2 : Int) → Cl sc d 112 [vr 805] (z_cfg (ts, te, tt, b1, b2, b3, b4, b5, b6), I, J) (z_k sc d mt_125 false 24 [vr 805, vi x1] [] Q))) from ⟨h.1, ⟨⟨by decide, by decide⟩, ⟨fun c0 => (h.2.1 c0), fun c0 => (h.2.2 c0)⟩⟩⟩)
set_option maxRecDepth 8000 in
theorem b125_17 {x1 s0 : Int} (h : Cl sc d 124 [vr 805, vi s0] (z_cfg t, I, J) (z_k sc d mt_125 false 17 [vr 805, vi x1] [] Q)) : Go sc d mt_125 17 [vr 805, vi x1] [vi s0, vr 805] (z_cfg t, I, J) Q := by
  obtain ⟨ts, te, tt, b1, b2, b3, b4, b5, b6⟩ := t
  · exact z_sound (f := false) (cuts := []) 300 17 [vr 805, vi x1] [vi s0, vr 805] (z_tab (ts, te, tt, b1, b2, b3, b4, b5, b6) ++ t_l (ts, te, tt, b1, b2, b3, b4, b5, b6), t_s (ts, te, tt, b1, b2, b3, b4, b5, b6), I, J) h
set_option maxRecDepth 8000 in
theorem b125_20 {x1 : Int} (h : Q (.inl none) (z_cfg t, I, J)) : Go sc d mt_125 20 [vr 805, vi x1] [] (z_cfg t, I, J) Q := by
  obtain ⟨ts, te, tt, b1, b2, b3, b4, b5, b6⟩ := t
  · exact z_sound (f := false) (cuts := []) 300 20 [vr 805, vi x1] [] (z_tab (ts, te, tt, b1, b2, b3, b4, b5, b6) ++ t_l (ts, te, tt, b1, b2, b3, b4, b5, b6), t_s (ts, te, tt, b1, b2, b3, b4, b5, b6), I, J) h
set_option maxRecDepth 8000 in
theorem b125_27 {x1 s0 : Int} (h : (inR s0) ∧ ((s0 = 0 → (inR (I 805 4)) ∧ ((I 805 4 = (1 : Int) → Cl sc d 127 [vr 805] (z_cfg t, I, J) (z_k sc d mt_125 false 46 [vr 805, vi x1] [] Q)) ∧ (¬ I 805 4 = (1 : Int) → Cl sc d 108 [vr 805, vi 40] (z_cfg t, I, J) (z_k sc d mt_125 false 55 [vr 805, vi x1] [] Q)))) ∧ (¬ s0 = 0 → Cl sc d 126 [vr 805] (z_cfg t, I, J) (z_k sc d mt_125 false 31 [vr 805, vi x1] [] Q)))) : Go sc d mt_125 27 [vr 805, vi x1] [vi s0] (z_cfg t, I, J) Q := by
  obtain ⟨ts, te, tt, b1, b2, b3, b4, b5, b6⟩ := t
  · exact z_sound (f := false) (cuts := []) 300 27 [vr 805, vi x1] [vi s0] (z_tab (ts, te, tt, b1, b2, b3, b4, b5, b6) ++ t_l (ts, te, tt, b1, b2, b3, b4, b5, b6), t_s (ts, te, tt, b1, b2, b3, b4, b5, b6), I, J) (show (inR s0) ∧ ((s0 = 0 → (inR (I 805 4)) ∧ (inR 1) ∧ ((I 805 4 = (1 : Int) → Cl sc d 127 [vr 805] (z_cfg (ts, te, tt, b1, b2, b3, b4, b5, b6), I, J) (z_k sc d mt_125 false 46 [vr 805, vi x1] [] Q)) ∧ (¬ I 805 4 = (1 : Int) → Cl sc d 108 [vr 805, vi 40] (z_cfg (ts, te, tt, b1, b2, b3, b4, b5, b6), I, J) (z_k sc d mt_125 false 55 [vr 805, vi x1] [] Q)))) ∧ (¬ s0 = 0 → Cl sc d 126 [vr 805] (z_cfg (ts, te, tt, b1, b2, b3, b4, b5, b6), I, J) (z_k sc d mt_125 false 31 [vr 805, vi x1] [] Q))) from ⟨h.1, ⟨fun c0 => ⟨(h.2.1 c0).1, ⟨⟨by decide, by decide⟩, ⟨fun c1 => ((h.2.1 c0).2.1 c1), fun c1 => ((h.2.1 c0).2.2 c1)⟩⟩⟩, fun c0 => (h.2.2 c0)⟩⟩)
set_option maxRecDepth 8000 in
theorem b125_34 {x1 : Int} (h : Q (.inl none) (z_cfg t, I, J)) : Go sc d mt_125 34 [vr 805, vi x1] [] (z_cfg t, I, J) Q := by
  obtain ⟨ts, te, tt, b1, b2, b3, b4, b5, b6⟩ := t
  · exact z_sound (f := false) (cuts := []) 300 34 [vr 805, vi x1] [] (z_tab (ts, te, tt, b1, b2, b3, b4, b5, b6) ++ t_l (ts, te, tt, b1, b2, b3, b4, b5, b6), t_s (ts, te, tt, b1, b2, b3, b4, b5, b6), I, J) h
set_option maxRecDepth 8000 in
theorem b125_49 {x1 : Int} (h : Q (.inl none) (z_cfg t, I, J)) : Go sc d mt_125 49 [vr 805, vi x1] [] (z_cfg t, I, J) Q := by
  obtain ⟨ts, te, tt, b1, b2, b3, b4, b5, b6⟩ := t
  · exact z_sound (f := false) (cuts := []) 300 49 [vr 805, vi x1] [] (z_tab (ts, te, tt, b1, b2, b3, b4, b5, b6) ++ t_l (ts, te, tt, b1, b2, b3, b4, b5, b6), t_s (ts, te, tt, b1, b2, b3, b4, b5, b6), I, J) h
set_option maxRecDepth 8000 in
theorem b125_58 {x1 s0 : Int} (h : (inR s0) ∧ ((s0 = 0 → Cl sc d 106 [vr 805, vi 1] (z_cfg t, I, J) (z_k sc d mt_125 false 83 [vr 805, vi x1] [] Q)) ∧ (¬ s0 = 0 → Cl sc d 98 [vr 805] (z_cfg t, I, J) (z_k sc d mt_125 false 62 [vr 805, vi x1] [] Q)))) : Go sc d mt_125 58 [vr 805, vi x1] [vi s0] (z_cfg t, I, J) Q := by
  obtain ⟨ts, te, tt, b1, b2, b3, b4, b5, b6⟩ := t
  · exact z_sound (f := false) (cuts := []) 300 58 [vr 805, vi x1] [vi s0] (z_tab (ts, te, tt, b1, b2, b3, b4, b5, b6) ++ t_l (ts, te, tt, b1, b2, b3, b4, b5, b6), t_s (ts, te, tt, b1, b2, b3, b4, b5, b6), I, J) h
set_option maxRecDepth 8000 in
theorem b125_65 {x1 : Int} (h : Cl sc d 128 [vr 805, vi (x1 + 1)] (z_cfg t, I, J) (z_k sc d mt_125 false 69 [vr 805, vi x1] [] Q)) : Go sc d mt_125 65 [vr 805, vi x1] [] (z_cfg t, I, J) Q := by
  obtain ⟨ts, te, tt, b1, b2, b3, b4, b5, b6⟩ := t
  · exact z_sound (f := false) (cuts := []) 300 65 [vr 805, vi x1] [] (z_tab (ts, te, tt, b1, b2, b3, b4, b5, b6) ++ t_l (ts, te, tt, b1, b2, b3, b4, b5, b6), t_s (ts, te, tt, b1, b2, b3, b4, b5, b6), I, J) h
set_option maxRecDepth 8000 in
theorem b125_72 {x1 : Int} (h : Cl sc d 107 [vr 805, vi 41] (z_cfg t, I, J) (z_k sc d mt_125 false 75 [vr 805, vi x1] [] Q)) : Go sc d mt_125 72 [vr 805, vi x1] [] (z_cfg t, I, J) Q := by
  obtain ⟨ts, te, tt, b1, b2, b3, b4, b5, b6⟩ := t
  · exact z_sound (f := false) (cuts := []) 300 72 [vr 805, vi x1] [] (z_tab (ts, te, tt, b1, b2, b3, b4, b5, b6) ++ t_l (ts, te, tt, b1, b2, b3, b4, b5, b6), t_s (ts, te, tt, b1, b2, b3, b4, b5, b6), I, J) h
set_option maxRecDepth 8000 in
theorem b125_78 {x1 : Int} (h : Q (.inl none) (z_cfg t, I, J)) : Go sc d mt_125 78 [vr 805, vi x1] [] (z_cfg t, I, J) Q := by
  obtain ⟨ts, te, tt, b1, b2, b3, b4, b5, b6⟩ := t
  · exact z_sound (f := false) (cuts := []) 300 78 [vr 805, vi x1] [] (z_tab (ts, te, tt, b1, b2, b3, b4, b5, b6) ++ t_l (ts, te, tt, b1, b2, b3, b4, b5, b6), t_s (ts, te, tt, b1, b2, b3, b4, b5, b6), I, J) h
set_option maxRecDepth 8000 in
theorem b125_86 {x1 : Int} (h : Q (.inl none) (z_cfg t, I, J)) : Go sc d mt_125 86 [vr 805, vi x1] [] (z_cfg t, I, J) Q := by
  obtain ⟨ts, te, tt, b1, b2, b3, b4, b5, b6⟩ := t
  · exact z_sound (f := false) (cuts := []) 300 86 [vr 805, vi x1] [] (z_tab (ts, te, tt, b1, b2, b3, b4, b5, b6) ++ t_l (ts, te, tt, b1, b2, b3, b4, b5, b6), t_s (ts, te, tt, b1, b2, b3, b4, b5, b6), I, J) h
theorem c125 {x1 : Int} {w : zW} {K : zR → zW → Prop} (hd : 1 ≤ d) (h : ∀ d', d = d' + 1 → Go sc d' mt_125 0 [vr 805, vi x1] [] w K) : Cl sc d 125 [vr 805, vi x1] w K := Cl_of rfl hd h
/-! FerryHall$Reader readName ()V -/
set_option maxRecDepth 8000 in
theorem b126_0 (h : (inR (I 805 5)) ∧ ((I 805 5 < (700 : Int) → (0 ≤ I 805 5 ∧ I 805 5 < 700) ∧ Cl sc d 113 [vr 805, vi (I 85 (I 805 5).toNat)] (z_cfg t, I, J) (z_k sc d mt_126 false 22 [vr 805, vn] [] Q)) ∧ (¬ I 805 5 < (700 : Int) → Go sc d mt_126 29 [vr 805, vn] [vi (-1)] (z_cfg t, I, J) Q))) : Go sc d mt_126 0 [vr 805, vn] [] (z_cfg t, I, J) Q := by
  obtain ⟨ts, te, tt, b1, b2, b3, b4, b5, b6⟩ := t
  · exact z_sound (f := false) (cuts := [29]) 300 0 [vr 805, vn] [] (z_tab (ts, te, tt, b1, b2, b3, b4, b5, b6) ++ t_l (ts, te, tt, b1, b2, b3, b4, b5, b6), t_s (ts, te, tt, b1, b2, b3, b4, b5, b6), I, J) (show (inR (I 805 5)) ∧ (inR 700) ∧ ((I 805 5 < (700 : Int) → (0 ≤ I 805 5 ∧ I 805 5 < 700) ∧ Cl sc d 113 [vr 805, vi (I 85 (I 805 5).toNat)] (z_cfg (ts, te, tt, b1, b2, b3, b4, b5, b6), I, J) (z_k sc d mt_126 false 22 [vr 805, vn] [] Q)) ∧ (¬ I 805 5 < (700 : Int) → Go sc d mt_126 29 [vr 805, vn] [vi (-1)] (z_cfg (ts, te, tt, b1, b2, b3, b4, b5, b6), I, J) Q)) from ⟨h.1, ⟨⟨by decide, by decide⟩, ⟨fun c0 => ⟨(h.2.1 c0).1, (h.2.1 c0).2⟩, fun c0 => (h.2.2 c0)⟩⟩⟩)
set_option maxRecDepth 8000 in
theorem b126_25 {s0 : Int} (h : Go sc d mt_126 29 [vr 805, vn] [vi s0] (z_cfg t, I, J) Q) : Go sc d mt_126 25 [vr 805, vn] [vi s0] (z_cfg t, I, J) Q := by
  obtain ⟨ts, te, tt, b1, b2, b3, b4, b5, b6⟩ := t
  · exact z_sound (f := false) (cuts := [29]) 300 25 [vr 805, vn] [vi s0] (z_tab (ts, te, tt, b1, b2, b3, b4, b5, b6) ++ t_l (ts, te, tt, b1, b2, b3, b4, b5, b6), t_s (ts, te, tt, b1, b2, b3, b4, b5, b6), I, J) h
set_option maxRecDepth 8000 in
theorem b126_29 {s0 : Int} (h : (inR s0) ∧ ((s0 = ((-1) : Int) → Cl sc d 106 [vr 805, vi 4] (z_cfg t, I, J) (z_k sc d mt_126 false 37 [vr 805, vi s0] [] Q)) ∧ (¬ s0 = ((-1) : Int) → Cl sc d 124 [vr 805, vi (1000 + s0)] (z_cfg t, I, J) (z_k sc d mt_126 false 47 [vr 805, vi s0] [] Q)))) : Go sc d mt_126 29 [vr 805, vn] [vi s0] (z_cfg t, I, J) Q := by
  obtain ⟨ts, te, tt, b1, b2, b3, b4, b5, b6⟩ := t
  · exact z_sound (f := false) (cuts := [29]) 300 29 [vr 805, vn] [vi s0] (z_tab (ts, te, tt, b1, b2, b3, b4, b5, b6) ++ t_l (ts, te, tt, b1, b2, b3, b4, b5, b6), t_s (ts, te, tt, b1, b2, b3, b4, b5, b6), I, J) (show (inR s0) ∧ (inR (-1)) ∧ ((s0 = ((-1) : Int) → Cl sc d 106 [vr 805, vi 4] (z_cfg (ts, te, tt, b1, b2, b3, b4, b5, b6), I, J) (z_k sc d mt_126 false 37 [vr 805, vi s0] [] Q)) ∧ (¬ s0 = ((-1) : Int) → Cl sc d 124 [vr 805, vi (1000 + s0)] (z_cfg (ts, te, tt, b1, b2, b3, b4, b5, b6), I, J) (z_k sc d mt_126 false 47 [vr 805, vi s0] [] Q))) from ⟨h.1, ⟨⟨by decide, by decide⟩, ⟨fun c0 => (h.2.1 c0), fun c0 => (h.2.2 c0)⟩⟩⟩)
set_option maxRecDepth 8000 in
theorem b126_40 {x1 : Int} (h : Q (.inl none) (z_cfg t, I, J)) : Go sc d mt_126 40 [vr 805, vi x1] [] (z_cfg t, I, J) Q := by
  obtain ⟨ts, te, tt, b1, b2, b3, b4, b5, b6⟩ := t
  · exact z_sound (f := false) (cuts := [29]) 300 40 [vr 805, vi x1] [] (z_tab (ts, te, tt, b1, b2, b3, b4, b5, b6) ++ t_l (ts, te, tt, b1, b2, b3, b4, b5, b6), t_s (ts, te, tt, b1, b2, b3, b4, b5, b6), I, J) h
set_option maxRecDepth 8000 in
theorem b126_50 {x1 : Int} (h : Cl sc d 98 [vr 805] (z_cfg t, I, J) (z_k sc d mt_126 false 51 [vr 805, vi x1] [] Q)) : Go sc d mt_126 50 [vr 805, vi x1] [] (z_cfg t, I, J) Q := by
  obtain ⟨ts, te, tt, b1, b2, b3, b4, b5, b6⟩ := t
  · exact z_sound (f := false) (cuts := [29]) 300 50 [vr 805, vi x1] [] (z_tab (ts, te, tt, b1, b2, b3, b4, b5, b6) ++ t_l (ts, te, tt, b1, b2, b3, b4, b5, b6), t_s (ts, te, tt, b1, b2, b3, b4, b5, b6), I, J) h
set_option maxRecDepth 8000 in
theorem b126_54 {x1 : Int} (h : Q (.inl none) (z_cfg t, I, J)) : Go sc d mt_126 54 [vr 805, vi x1] [] (z_cfg t, I, J) Q := by
  obtain ⟨ts, te, tt, b1, b2, b3, b4, b5, b6⟩ := t
  · exact z_sound (f := false) (cuts := [29]) 300 54 [vr 805, vi x1] [] (z_tab (ts, te, tt, b1, b2, b3, b4, b5, b6) ++ t_l (ts, te, tt, b1, b2, b3, b4, b5, b6), t_s (ts, te, tt, b1, b2, b3, b4, b5, b6), I, J) h
theorem c126 {w : zW} {K : zR → zW → Prop} (hd : 1 ≤ d) (h : ∀ d', d = d' + 1 → Go sc d' mt_126 0 [vr 805, vn] [] w K) : Cl sc d 126 [vr 805] w K := Cl_of rfl hd h
/-! FerryHall$Reader readMeasure ()V -/
set_option maxRecDepth 8000 in
theorem b127_0 (h : Cl sc d 104 [vr 805, vr 1049] (z_cfg t, I, J) (z_k sc d mt_127 false 3 [vr 805] [] Q)) : Go sc d mt_127 0 [vr 805] [] (z_cfg t, I, J) Q := by
  obtain ⟨ts, te, tt, b1, b2, b3, b4, b5, b6⟩ := t
  · exact z_sound (f := false) (cuts := [123]) 300 0 [vr 805] [] (z_tab (ts, te, tt, b1, b2, b3, b4, b5, b6) ++ t_l (ts, te, tt, b1, b2, b3, b4, b5, b6), t_s (ts, te, tt, b1, b2, b3, b4, b5, b6), I, J) h
set_option maxRecDepth 8000 in
theorem b127_6 {s0 : Int} (h : (inR s0) ∧ ((s0 = 0 → Cl sc d 104 [vr 805, vr 729] (z_cfg t, I, J) (z_k sc d mt_127 false 22 [vr 805] [] Q)) ∧ (¬ s0 = 0 → Cl sc d 124 [vr 805, vi 1100] (z_cfg t, I, J) (z_k sc d mt_127 false 13 [vr 805] [] Q)))) : Go sc d mt_127 6 [vr 805] [vi s0] (z_cfg t, I, J) Q := by
  obtain ⟨ts, te, tt, b1, b2, b3, b4, b5, b6⟩ := t
  · exact z_sound (f := false) (cuts := [123]) 300 6 [vr 805] [vi s0] (z_tab (ts, te, tt, b1, b2, b3, b4, b5, b6) ++ t_l (ts, te, tt, b1, b2, b3, b4, b5, b6), t_s (ts, te, tt, b1, b2, b3, b4, b5, b6), I, J) h
set_option maxRecDepth 8000 in
theorem b127_16 (h : Go sc d mt_127 123 [vr 805] [] (z_cfg t, I, J) Q) : Go sc d mt_127 16 [vr 805] [] (z_cfg t, I, J) Q := by
  obtain ⟨ts, te, tt, b1, b2, b3, b4, b5, b6⟩ := t
  · exact z_sound (f := false) (cuts := [123]) 300 16 [vr 805] [] (z_tab (ts, te, tt, b1, b2, b3, b4, b5, b6) ++ t_l (ts, te, tt, b1, b2, b3, b4, b5, b6), t_s (ts, te, tt, b1, b2, b3, b4, b5, b6), I, J) h
set_option maxRecDepth 8000 in
theorem b127_25 {s0 : Int} (h : (inR s0) ∧ ((s0 = 0 → Cl sc d 104 [vr 805, vr 1081] (z_cfg t, I, J) (z_k sc d mt_127 false 42 [vr 805] [] Q)) ∧ (¬ s0 = 0 → Cl sc d 124 [vr 805, vi 1101] (z_cfg t, I, J) (z_k sc d mt_127 false 32 [vr 805] [] Q)))) : Go sc d mt_127 25 [vr 805] [vi s0] (z_cfg t, I, J) Q := by
  obtain ⟨ts, te, tt, b1, b2, b3, b4, b5, b6⟩ := t
  · exact z_sound (f := false) (cuts := [123]) 300 25 [vr 805] [vi s0] (z_tab (ts, te, tt, b1, b2, b3, b4, b5, b6) ++ t_l (ts, te, tt, b1, b2, b3, b4, b5, b6), t_s (ts, te, tt, b1, b2, b3, b4, b5, b6), I, J) h
set_option maxRecDepth 8000 in
theorem b127_35 (h : Go sc d mt_127 123 [vr 805] [] (z_cfg t, I, J) Q) : Go sc d mt_127 35 [vr 805] [] (z_cfg t, I, J) Q := by
  obtain ⟨ts, te, tt, b1, b2, b3, b4, b5, b6⟩ := t
  · exact z_sound (f := false) (cuts := [123]) 300 35 [vr 805] [] (z_tab (ts, te, tt, b1, b2, b3, b4, b5, b6) ++ t_l (ts, te, tt, b1, b2, b3, b4, b5, b6), t_s (ts, te, tt, b1, b2, b3, b4, b5, b6), I, J) h
set_option maxRecDepth 8000 in
theorem b127_45 {s0 : Int} (h : (inR s0) ∧ ((s0 = 0 → Cl sc d 104 [vr 805, vr 1113] (z_cfg t, I, J) (z_k sc d mt_127 false 62 [vr 805] [] Q)) ∧ (¬ s0 = 0 → Cl sc d 124 [vr 805, vi 1102] (z_cfg t, I, J) (z_k sc d mt_127 false 52 [vr 805] [] Q)))) : Go sc d mt_127 45 [vr 805] [vi s0] (z_cfg t, I, J) Q := by
  obtain ⟨ts, te, tt, b1, b2, b3, b4, b5, b6⟩ := t
  · exact z_sound (f := false) (cuts := [123]) 300 45 [vr 805] [vi s0] (z_tab (ts, te, tt, b1, b2, b3, b4, b5, b6) ++ t_l (ts, te, tt, b1, b2, b3, b4, b5, b6), t_s (ts, te, tt, b1, b2, b3, b4, b5, b6), I, J) h
set_option maxRecDepth 8000 in
theorem b127_55 (h : Go sc d mt_127 123 [vr 805] [] (z_cfg t, I, J) Q) : Go sc d mt_127 55 [vr 805] [] (z_cfg t, I, J) Q := by
  obtain ⟨ts, te, tt, b1, b2, b3, b4, b5, b6⟩ := t
  · exact z_sound (f := false) (cuts := [123]) 300 55 [vr 805] [] (z_tab (ts, te, tt, b1, b2, b3, b4, b5, b6) ++ t_l (ts, te, tt, b1, b2, b3, b4, b5, b6), t_s (ts, te, tt, b1, b2, b3, b4, b5, b6), I, J) h
set_option maxRecDepth 8000 in
theorem b127_65 {s0 : Int} (h : (inR s0) ∧ ((s0 = 0 → Cl sc d 104 [vr 805, vr 665] (z_cfg t, I, J) (z_k sc d mt_127 false 81 [vr 805] [] Q)) ∧ (¬ s0 = 0 → Cl sc d 124 [vr 805, vi 1103] (z_cfg t, I, J) (z_k sc d mt_127 false 72 [vr 805] [] Q)))) : Go sc d mt_127 65 [vr 805] [vi s0] (z_cfg t, I, J) Q := by
  obtain ⟨ts, te, tt, b1, b2, b3, b4, b5, b6⟩ := t
  · exact z_sound (f := false) (cuts := [123]) 300 65 [vr 805] [vi s0] (z_tab (ts, te, tt, b1, b2, b3, b4, b5, b6) ++ t_l (ts, te, tt, b1, b2, b3, b4, b5, b6), t_s (ts, te, tt, b1, b2, b3, b4, b5, b6), I, J) h
set_option maxRecDepth 8000 in
theorem b127_75 (h : Go sc d mt_127 123 [vr 805] [] (z_cfg t, I, J) Q) : Go sc d mt_127 75 [vr 805] [] (z_cfg t, I, J) Q := by
  obtain ⟨ts, te, tt, b1, b2, b3, b4, b5, b6⟩ := t
  · exact z_sound (f := false) (cuts := [123]) 300 75 [vr 805] [] (z_tab (ts, te, tt, b1, b2, b3, b4, b5, b6) ++ t_l (ts, te, tt, b1, b2, b3, b4, b5, b6), t_s (ts, te, tt, b1, b2, b3, b4, b5, b6), I, J) h
set_option maxRecDepth 8000 in
theorem b127_84 {s0 : Int} (h : (inR s0) ∧ ((s0 = 0 → Cl sc d 104 [vr 805, vr 1145] (z_cfg t, I, J) (z_k sc d mt_127 false 101 [vr 805] [] Q)) ∧ (¬ s0 = 0 → Cl sc d 124 [vr 805, vi 1104] (z_cfg t, I, J) (z_k sc d mt_127 false 91 [vr 805] [] Q)))) : Go sc d mt_127 84 [vr 805] [vi s0] (z_cfg t, I, J) Q := by
  obtain ⟨ts, te, tt, b1, b2, b3, b4, b5, b6⟩ := t
  · exact z_sound (f := false) (cuts := [123]) 300 84 [vr 805] [vi s0] (z_tab (ts, te, tt, b1, b2, b3, b4, b5, b6) ++ t_l (ts, te, tt, b1, b2, b3, b4, b5, b6), t_s (ts, te, tt, b1, b2, b3, b4, b5, b6), I, J) h
set_option maxRecDepth 8000 in
theorem b127_94 (h : Go sc d mt_127 123 [vr 805] [] (z_cfg t, I, J) Q) : Go sc d mt_127 94 [vr 805] [] (z_cfg t, I, J) Q := by
  obtain ⟨ts, te, tt, b1, b2, b3, b4, b5, b6⟩ := t
  · exact z_sound (f := false) (cuts := [123]) 300 94 [vr 805] [] (z_tab (ts, te, tt, b1, b2, b3, b4, b5, b6) ++ t_l (ts, te, tt, b1, b2, b3, b4, b5, b6), t_s (ts, te, tt, b1, b2, b3, b4, b5, b6), I, J) h
set_option maxRecDepth 8000 in
theorem b127_104 {s0 : Int} (h : (inR s0) ∧ ((s0 = 0 → Cl sc d 106 [vr 805, vi 3] (z_cfg t, I, J) (z_k sc d mt_127 false 119 [vr 805] [] Q)) ∧ (¬ s0 = 0 → Cl sc d 124 [vr 805, vi 1105] (z_cfg t, I, J) (z_k sc d mt_127 false 111 [vr 805] [] Q)))) : Go sc d mt_127 104 [vr 805] [vi s0] (z_cfg t, I, J) Q := by
  obtain ⟨ts, te, tt, b1, b2, b3, b4, b5, b6⟩ := t
  · exact z_sound (f := false) (cuts := [123]) 300 104 [vr 805] [vi s0] (z_tab (ts, te, tt, b1, b2, b3, b4, b5, b6) ++ t_l (ts, te, tt, b1, b2, b3, b4, b5, b6), t_s (ts, te, tt, b1, b2, b3, b4, b5, b6), I, J) h
set_option maxRecDepth 8000 in
theorem b127_114 (h : Go sc d mt_127 123 [vr 805] [] (z_cfg t, I, J) Q) : Go sc d mt_127 114 [vr 805] [] (z_cfg t, I, J) Q := by
  obtain ⟨ts, te, tt, b1, b2, b3, b4, b5, b6⟩ := t
  · exact z_sound (f := false) (cuts := [123]) 300 114 [vr 805] [] (z_tab (ts, te, tt, b1, b2, b3, b4, b5, b6) ++ t_l (ts, te, tt, b1, b2, b3, b4, b5, b6), t_s (ts, te, tt, b1, b2, b3, b4, b5, b6), I, J) h
set_option maxRecDepth 8000 in
theorem b127_122 (h : Q (.inl none) (z_cfg t, I, J)) : Go sc d mt_127 122 [vr 805] [] (z_cfg t, I, J) Q := by
  obtain ⟨ts, te, tt, b1, b2, b3, b4, b5, b6⟩ := t
  · exact z_sound (f := false) (cuts := [123]) 300 122 [vr 805] [] (z_tab (ts, te, tt, b1, b2, b3, b4, b5, b6) ++ t_l (ts, te, tt, b1, b2, b3, b4, b5, b6), t_s (ts, te, tt, b1, b2, b3, b4, b5, b6), I, J) h
set_option maxRecDepth 8000 in
theorem b127_123 (h : Cl sc d 98 [vr 805] (z_cfg t, I, J) (z_k sc d mt_127 false 124 [vr 805] [] Q)) : Go sc d mt_127 123 [vr 805] [] (z_cfg t, I, J) Q := by
  obtain ⟨ts, te, tt, b1, b2, b3, b4, b5, b6⟩ := t
  · exact z_sound (f := false) (cuts := [123]) 300 123 [vr 805] [] (z_tab (ts, te, tt, b1, b2, b3, b4, b5, b6) ++ t_l (ts, te, tt, b1, b2, b3, b4, b5, b6), t_s (ts, te, tt, b1, b2, b3, b4, b5, b6), I, J) h
set_option maxRecDepth 8000 in
theorem b127_127 (h : Q (.inl none) (z_cfg t, I, J)) : Go sc d mt_127 127 [vr 805] [] (z_cfg t, I, J) Q := by
  obtain ⟨ts, te, tt, b1, b2, b3, b4, b5, b6⟩ := t
  · exact z_sound (f := false) (cuts := [123]) 300 127 [vr 805] [] (z_tab (ts, te, tt, b1, b2, b3, b4, b5, b6) ++ t_l (ts, te, tt, b1, b2, b3, b4, b5, b6), t_s (ts, te, tt, b1, b2, b3, b4, b5, b6), I, J) h
theorem c127 {w : zW} {K : zR → zW → Prop} (hd : 1 ≤ d) (h : ∀ d', d = d' + 1 → Go sc d' mt_127 0 [vr 805] [] w K) : Cl sc d 127 [vr 805] w K := Cl_of rfl hd h
/-! FerryHall$Reader readNested (I)V -/
set_option maxRecDepth 8000 in
theorem b128_0 {x1 : Int} (h : (inR x1) ∧ ((x1 < (6 : Int) → Cl sc d 120 [vr 805, vi 0, vi x1] (z_cfg t, I, J) (z_k sc d mt_128 false 9 [vr 805, vi x1] [] Q)) ∧ (¬ x1 < (6 : Int) → (inR (I 805 4)) ∧ ((I 805 4 = (2 : Int) → Go sc d mt_128 41 [vr 805, vi x1] [vr 805] (z_cfg t, I, J) Q) ∧ (¬ I 805 4 = (2 : Int) → (I 805 4 = (1 : Int) → Go sc d mt_128 41 [vr 805, vi x1] [vr 805] (z_cfg t, I, J) Q) ∧ (¬ I 805 4 = (1 : Int) → Cl sc d 108 [vr 805, vi 40] (z_cfg t, I, J) (z_k sc d mt_128 false 35 [vr 805, vi x1] [vr 805] Q))))))) : Go sc d mt_128 0 [vr 805, vi x1] [] (z_cfg t, I, J) Q := by
  obtain ⟨ts, te, tt, b1, b2, b3, b4, b5, b6⟩ := t
  · exact z_sound (f := false) (cuts := [41, 46]) 300 0 [vr 805, vi x1] [] (z_tab (ts, te, tt, b1, b2, b3, b4, b5, b6) ++ t_l (ts, te, tt, b1, b2, b3, b4, b5, b6), t_s (ts, te, tt, b1, b2, b3, b4, b5, b6), I, J) (show (inR x1) ∧ (inR 6) ∧ ((x1 < (6 : Int) → Cl sc d 120 [vr 805, vi 0, vi x1] (z_cfg (ts, te, tt, b1, b2, b3, b4, b5, b6), I, J) (z_k sc d mt_128 false 9 [vr 805, vi x1] [] Q)) ∧ (¬ x1 < (6 : Int) → (inR (I 805 4)) ∧ (inR 2) ∧ ((I 805 4 = (2 : Int) → Go sc d mt_128 41 [vr 805, vi x1] [vr 805] (z_cfg (ts, te, tt, b1, b2, b3, b4, b5, b6), I, J) Q) ∧ (¬ I 805 4 = (2 : Int) → (inR (I 805 4)) ∧ (inR 1) ∧ ((I 805 4 = (1 : Int) → Go sc d mt_128 41 [vr 805, vi x1] [vr 805] (z_cfg (ts, te, tt, b1, b2, b3, b4, b5, b6), I, J) Q) ∧ (¬ I 805 4 = (1 : Int) → Cl sc d 108 [vr 805, vi 40] (z_cfg (ts, te, tt, b1, b2, b3, b4, b5, b6), I, J) (z_k sc d mt_128 false 35 [vr 805, vi x1] [vr 805] Q))))))) from ⟨h.1, ⟨⟨by decide, by decide⟩, ⟨fun c0 => (h.2.1 c0), fun c0 => ⟨(h.2.2 c0).1, ⟨⟨by decide, by decide⟩, ⟨fun c1 => ((h.2.2 c0).2.1 c1), fun c1 => ⟨(h.2.2 c0).1, ⟨⟨by decide, by decide⟩, ⟨fun c2 => (((h.2.2 c0).2.2 c1).1 c2), fun c2 => (((h.2.2 c0).2.2 c1).2 c2)⟩⟩⟩⟩⟩⟩⟩⟩⟩)
set_option maxRecDepth 8000 in
theorem b128_12 {x1 : Int} (h : Q (.inl none) (z_cfg t, I, J)) : Go sc d mt_128 12 [vr 805, vi x1] [] (z_cfg t, I, J) Q := by
  obtain ⟨ts, te, tt, b1, b2, b3, b4, b5, b6⟩ := t
  · exact z_sound (f := false) (cuts := [41, 46]) 300 12 [vr 805, vi x1] [] (z_tab (ts, te, tt, b1, b2, b3, b4, b5, b6) ++ t_l (ts, te, tt, b1, b2, b3, b4, b5, b6), t_s (ts, te, tt, b1, b2, b3, b4, b5, b6), I, J) h
set_option maxRecDepth 8000 in
theorem b128_38 {x1 s0 : Int} (h : (inR s0) ∧ ((s0 = 0 → Go sc d mt_128 46 [vr 805, vi x1] [vi 1, vr 805] (z_cfg t, I, J) Q) ∧ (¬ s0 = 0 → Go sc d mt_128 41 [vr 805, vi x1] [vr 805] (z_cfg t, I, J) Q))) : Go sc d mt_128 38 [vr 805, vi x1] [vi s0, vr 805] (z_cfg t, I, J) Q := by
  obtain ⟨ts, te, tt, b1, b2, b3, b4, b5, b6⟩ := t
  · exact z_sound (f := false) (cuts := [41, 46]) 300 38 [vr 805, vi x1] [vi s0, vr 805] (z_tab (ts, te, tt, b1, b2, b3, b4, b5, b6) ++ t_l (ts, te, tt, b1, b2, b3, b4, b5, b6), t_s (ts, te, tt, b1, b2, b3, b4, b5, b6), I, J) h
set_option maxRecDepth 8000 in
theorem b128_41 {x1 : Int} (h : Go sc d mt_128 46 [vr 805, vi x1] [vi 2, vr 805] (z_cfg t, I, J) Q) : Go sc d mt_128 41 [vr 805, vi x1] [vr 805] (z_cfg t, I, J) Q := by
  obtain ⟨ts, te, tt, b1, b2, b3, b4, b5, b6⟩ := t
  · exact z_sound (f := false) (cuts := [41, 46]) 300 41 [vr 805, vi x1] [vr 805] (z_tab (ts, te, tt, b1, b2, b3, b4, b5, b6) ++ t_l (ts, te, tt, b1, b2, b3, b4, b5, b6), t_s (ts, te, tt, b1, b2, b3, b4, b5, b6), I, J) h
set_option maxRecDepth 8000 in
theorem b128_46 {x1 s0 : Int} (h : Cl sc d 106 [vr 805, vi s0] (z_cfg t, I, J) (z_k sc d mt_128 false 46 [vr 805, vi x1] [] Q)) : Go sc d mt_128 46 [vr 805, vi x1] [vi s0, vr 805] (z_cfg t, I, J) Q := by
  obtain ⟨ts, te, tt, b1, b2, b3, b4, b5, b6⟩ := t
  · exact z_sound (f := false) (cuts := [41, 46]) 300 46 [vr 805, vi x1] [vi s0, vr 805] (z_tab (ts, te, tt, b1, b2, b3, b4, b5, b6) ++ t_l (ts, te, tt, b1, b2, b3, b4, b5, b6), t_s (ts, te, tt, b1, b2, b3, b4, b5, b6), I, J) h
set_option maxRecDepth 8000 in
theorem b128_49 {x1 : Int} (h : Q (.inl none) (z_cfg t, I, J)) : Go sc d mt_128 49 [vr 805, vi x1] [] (z_cfg t, I, J) Q := by
  obtain ⟨ts, te, tt, b1, b2, b3, b4, b5, b6⟩ := t
  · exact z_sound (f := false) (cuts := [41, 46]) 300 49 [vr 805, vi x1] [] (z_tab (ts, te, tt, b1, b2, b3, b4, b5, b6) ++ t_l (ts, te, tt, b1, b2, b3, b4, b5, b6), t_s (ts, te, tt, b1, b2, b3, b4, b5, b6), I, J) h
theorem c128 {x1 : Int} {w : zW} {K : zR → zW → Prop} (hd : 1 ≤ d) (h : ∀ d', d = d' + 1 → Go sc d' mt_128 0 [vr 805, vi x1] [] w K) : Cl sc d 128 [vr 805, vi x1] w K := Cl_of rfl hd h
/-! FerryHall$Reader readRow (II)V -/
set_option maxRecDepth 8000 in
theorem b129_0 {x1 x2 : Int} (h : Cl sc d 120 [vr 805, vi (x1 + 1), vi x2] (z_cfg t, I, J) (z_k sc d mt_129 false 5 [vr 805, vi x1, vi x2, vn, vn] [] Q)) : Go sc d mt_129 0 [vr 805, vi x1, vi x2, vn, vn] [] (z_cfg t, I, J) Q := by
  obtain ⟨ts, te, tt, b1, b2, b3, b4, b5, b6⟩ := t
  · exact z_sound (f := false) (cuts := [10]) 300 0 [vr 805, vi x1, vi x2, vn, vn] [] (z_tab (ts, te, tt, b1, b2, b3, b4, b5, b6) ++ t_l (ts, te, tt, b1, b2, b3, b4, b5, b6), t_s (ts, te, tt, b1, b2, b3, b4, b5, b6), I, J) h
set_option maxRecDepth 8000 in
theorem b129_8 {x1 x2 : Int} (h : Go sc d mt_129 10 [vr 805, vi x1, vi x2, vi 0, vn] [] (z_cfg t, I, J) Q) : Go sc d mt_129 8 [vr 805, vi x1, vi x2, vn, vn] [] (z_cfg t, I, J) Q := by
  obtain ⟨ts, te, tt, b1, b2, b3, b4, b5, b6⟩ := t
  · exact z_sound (f := false) (cuts := [10]) 300 8 [vr 805, vi x1, vi x2, vn, vn] [] (z_tab (ts, te, tt, b1, b2, b3, b4, b5, b6) ++ t_l (ts, te, tt, b1, b2, b3, b4, b5, b6), t_s (ts, te, tt, b1, b2, b3, b4, b5, b6), I, J) h
set_option maxRecDepth 8000 in
theorem b129_10 {x1 x2 x3 : Int} {v4 : zV} (h : (inR x3) ∧ ((x3 < (700 : Int) → Cl sc d 122 [vr 805, vi x1] (z_cfg t, I, J) (z_k sc d mt_129 false 19 [vr 805, vi x1, vi x2, vi x3, v4] [] Q)) ∧ (¬ x3 < (700 : Int) → Q (.inl none) (z_cfg t, I, J)))) : Go sc d mt_129 10 [vr 805, vi x1, vi x2, vi x3, v4] [] (z_cfg t, I, J) Q := by
  obtain ⟨ts, te, tt, b1, b2, b3, b4, b5, b6⟩ := t
  · exact z_sound (f := false) (cuts := [10]) 300 10 [vr 805, vi x1, vi x2, vi x3, v4] [] (z_tab (ts, te, tt, b1, b2, b3, b4, b5, b6) ++ t_l (ts, te, tt, b1, b2, b3, b4, b5, b6), t_s (ts, te, tt, b1, b2, b3, b4, b5, b6), I, J) (show (inR x3) ∧ (inR 700) ∧ ((x3 < (700 : Int) → Cl sc d 122 [vr 805, vi x1] (z_cfg (ts, te, tt, b1, b2, b3, b4, b5, b6), I, J) (z_k sc d mt_129 false 19 [vr 805, vi x1, vi x2, vi x3, v4] [] Q)) ∧ (¬ x3 < (700 : Int) → Q (.inl none) (z_cfg (ts, te, tt, b1, b2, b3, b4, b5, b6), I, J))) from ⟨h.1, ⟨⟨by decide, by decide⟩, ⟨fun c0 => (h.2.1 c0), fun c0 => (h.2.2 c0)⟩⟩⟩)
set_option maxRecDepth 8000 in
theorem b129_22 {x1 x2 x3 s0 : Int} {v4 : zV} (h : (inR s0) ∧ ((s0 = ((-1) : Int) → Q (.inl none) (z_cfg t, I, J)) ∧ (¬ s0 = ((-1) : Int) → Cl sc d 98 [vr 805] (z_cfg t, I, J) (z_k sc d mt_129 false 32 [vr 805, vi x1, vi x2, vi x3, vi s0] [] Q)))) : Go sc d mt_129 22 [vr 805, vi x1, vi x2, vi x3, v4] [vi s0] (z_cfg t, I, J) Q := by
  obtain ⟨ts, te, tt, b1, b2, b3, b4, b5, b6⟩ := t
  · exact z_sound (f := false) (cuts := [10]) 300 22 [vr 805, vi x1, vi x2, vi x3, v4] [vi s0] (z_tab (ts, te, tt, b1, b2, b3, b4, b5, b6) ++ t_l (ts, te, tt, b1, b2, b3, b4, b5, b6), t_s (ts, te, tt, b1, b2, b3, b4, b5, b6), I, J) (show (inR s0) ∧ (inR (-1)) ∧ ((s0 = ((-1) : Int) → Q (.inl none) (z_cfg (ts, te, tt, b1, b2, b3, b4, b5, b6), I, J)) ∧ (¬ s0 = ((-1) : Int) → Cl sc d 98 [vr 805] (z_cfg (ts, te, tt, b1, b2, b3, b4, b5, b6), I, J) (z_k sc d mt_129 false 32 [vr 805, vi x1, vi x2, vi x3, vi s0] [] Q))) from ⟨h.1, ⟨⟨by decide, by decide⟩, ⟨fun c0 => (h.2.1 c0), fun c0 => (h.2.2 c0)⟩⟩⟩)
set_option maxRecDepth 8000 in
theorem b129_35 {x1 x2 x3 x4 : Int} (h : Cl sc d 120 [vr 805, vi (x1 + 1), vi x2] (z_cfg t, I, J) (z_k sc d mt_129 false 40 [vr 805, vi x1, vi x2, vi x3, vi x4] [] Q)) : Go sc d mt_129 35 [vr 805, vi x1, vi x2, vi x3, vi x4] [] (z_cfg t, I, J) Q := by
  obtain ⟨ts, te, tt, b1, b2, b3, b4, b5, b6⟩ := t
  · exact z_sound (f := false) (cuts := [10]) 300 35 [vr 805, vi x1, vi x2, vi x3, vi x4] [] (z_tab (ts, te, tt, b1, b2, b3, b4, b5, b6) ++ t_l (ts, te, tt, b1, b2, b3, b4, b5, b6), t_s (ts, te, tt, b1, b2, b3, b4, b5, b6), I, J) h
set_option maxRecDepth 8000 in
theorem b129_43 {x1 x2 x3 x4 : Int} (h : Cl sc d 124 [vr 805, vi x4] (z_cfg t, I, J) (z_k sc d mt_129 false 46 [vr 805, vi x1, vi x2, vi x3, vi x4] [] Q)) : Go sc d mt_129 43 [vr 805, vi x1, vi x2, vi x3, vi x4] [] (z_cfg t, I, J) Q := by
  obtain ⟨ts, te, tt, b1, b2, b3, b4, b5, b6⟩ := t
  · exact z_sound (f := false) (cuts := [10]) 300 43 [vr 805, vi x1, vi x2, vi x3, vi x4] [] (z_tab (ts, te, tt, b1, b2, b3, b4, b5, b6) ++ t_l (ts, te, tt, b1, b2, b3, b4, b5, b6), t_s (ts, te, tt, b1, b2, b3, b4, b5, b6), I, J) h
set_option maxRecDepth 8000 in
theorem b129_49 {x1 x2 x3 x4 : Int} (h : Go sc d mt_129 10 [vr 805, vi x1, vi x2, vi (x3 + 1), vi x4] [] (z_cfg t, I, J) Q) : Go sc d mt_129 49 [vr 805, vi x1, vi x2, vi x3, vi x4] [] (z_cfg t, I, J) Q := by
  obtain ⟨ts, te, tt, b1, b2, b3, b4, b5, b6⟩ := t
  · exact z_sound (f := false) (cuts := [10]) 300 49 [vr 805, vi x1, vi x2, vi x3, vi x4] [] (z_tab (ts, te, tt, b1, b2, b3, b4, b5, b6) ++ t_l (ts, te, tt, b1, b2, b3, b4, b5, b6), t_s (ts, te, tt, b1, b2, b3, b4, b5, b6), I, J) h
theorem c129 {x1 x2 : Int} {w : zW} {K : zR → zW → Prop} (hd : 1 ≤ d) (h : ∀ d', d = d' + 1 → Go sc d' mt_129 0 [vr 805, vi x1, vi x2, vn, vn] [] w K) : Cl sc d 129 [vr 805, vi x1, vi x2] w K := Cl_of rfl hd h
end
