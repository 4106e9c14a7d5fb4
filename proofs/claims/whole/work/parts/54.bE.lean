section
variable {sc : mS} {d : Nat} {t : zT} {I J : Nat → Nat → Int} {Q : zR → zW → Prop}
/-! FerryHallModel begins ()V -/
set_option maxRecDepth 8000 in
theorem b183_0 (h : Go sc d mt_183 2 [vr 1835, vi 0] [] (z_cfg t, I, J) Q) : Go sc d mt_183 0 [vr 1835, vn] [] (z_cfg t, I, J) Q := by
  obtain ⟨ts, te, tt, b1, b2, b3, b4, b5, b6⟩ := t
  · exact z_sound (f := false) (cuts := [2]) 300 0 [vr 1835, vn] [] (z_tab (ts, te, tt, b1, b2, b3, b4, b5, b6) ++ t_l (ts, te, tt, b1, b2, b3, b4, b5, b6), t_s (ts, te, tt, b1, b2, b3, b4, b5, b6), I, J) h
set_option maxRecDepth 8000 in
theorem b183_2 {x1 : Int} (h : (inR x1) ∧ ((x1 < (7680 : Int) → (0 ≤ x1 ∧ x1 < 7680) ∧ Go sc d mt_183 2 [vr 1835, vi (x1 + 1)] [] (z_cfg t, z_u I 2612 (x1).toNat 0, J) Q) ∧ (¬ x1 < (7680 : Int) → Cl sc d 184 [vr 1835] (z_cfg t, z_u (z_u (z_u (z_u (z_u (z_u (z_u (z_u I 1835 67 0) 1835 78 0) 3252 0 0) 3252 1 0) 1835 82 0) 1835 52 (-1)) 1835 84 0) 1835 85 (-1), J) (z_k sc d mt_183 false 72 [vr 1835, vi x1] [vi 0, vr 3316] Q)))) : Go sc d mt_183 2 [vr 1835, vi x1] [] (z_cfg t, I, J) Q := by
  obtain ⟨ts, te, tt, b1, b2, b3, b4, b5, b6⟩ := t
  · exact z_sound (f := false) (cuts := [2]) 300 2 [vr 1835, vi x1] [] (z_tab (ts, te, tt, b1, b2, b3, b4, b5, b6) ++ t_l (ts, te, tt, b1, b2, b3, b4, b5, b6), t_s (ts, te, tt, b1, b2, b3, b4, b5, b6), I, J) (show (inR x1) ∧ (inR 7680) ∧ ((x1 < (7680 : Int) → (0 ≤ x1 ∧ x1 < 7680) ∧ Go sc d mt_183 2 [vr 1835, vi (x1 + 1)] [] (z_cfg (ts, te, tt, b1, b2, b3, b4, b5, b6), z_u I 2612 (x1).toNat 0, J) Q) ∧ (¬ x1 < (7680 : Int) → ((0 : Int) = 0 ∨ (0 : Int) = 1) ∧ (0 ≤ (0 : Int) ∧ (0 : Int) < 2) ∧ (0 ≤ (1 : Int) ∧ (1 : Int) < 2) ∧ Cl sc d 184 [vr 1835] (z_cfg (ts, te, tt, b1, b2, b3, b4, b5, b6), z_u (z_u (z_u (z_u (z_u (z_u (z_u (z_u I 1835 67 0) 1835 78 0) 3252 0 0) 3252 1 0) 1835 82 0) 1835 52 (-1)) 1835 84 0) 1835 85 (-1), J) (z_k sc d mt_183 false 72 [vr 1835, vi x1] [vi 0, vr 3316] Q))) from ⟨h.1, ⟨⟨by decide, by decide⟩, ⟨fun c0 => ⟨(h.2.1 c0).1, (h.2.1 c0).2⟩, fun c0 => ⟨by decide, ⟨⟨by decide, by decide⟩, ⟨⟨by decide, by decide⟩, (h.2.2 c0)⟩⟩⟩⟩⟩⟩)
set_option maxRecDepth 8000 in
theorem b183_75 {x1 s1 s0 : Int} (h : (0 ≤ s1 ∧ s1 < 61) ∧ (Q (.inl none) (z_cfg t, z_u (z_u (z_u I 3316 (s1).toNat s0) 3348 0 0) 1835 70 (-1), J))) : Go sc d mt_183 75 [vr 1835, vi x1] [vi s0, vi s1, vr 3316] (z_cfg t, I, J) Q := by
  obtain ⟨ts, te, tt, b1, b2, b3, b4, b5, b6⟩ := t
  · exact z_sound (f := false) (cuts := [2]) 300 75 [vr 1835, vi x1] [vi s0, vi s1, vr 3316] (z_tab (ts, te, tt, b1, b2, b3, b4, b5, b6) ++ t_l (ts, te, tt, b1, b2, b3, b4, b5, b6), t_s (ts, te, tt, b1, b2, b3, b4, b5, b6), I, J) (show (0 ≤ s1 ∧ s1 < 61) ∧ (0 ≤ (0 : Int) ∧ (0 : Int) < 61) ∧ Q (.inl none) (z_cfg (ts, te, tt, b1, b2, b3, b4, b5, b6), z_u (z_u (z_u I 3316 (s1).toNat s0) 3348 0 0) 1835 70 (-1), J) from ⟨h.1, ⟨⟨by decide, by decide⟩, h.2⟩⟩)
theorem c183 {w : zW} {K : zR → zW → Prop} (hd : 1 ≤ d) (h : ∀ d', d = d' + 1 → Go sc d' mt_183 0 [vr 1835, vn] [] w K) : Cl sc d 183 [vr 1835] w K := Cl_of rfl hd h
/-! FerryHallModel start ()I -/
set_option maxRecDepth 8000 in
theorem b184_0 (h : Go sc d mt_184 4 [vr 1835, vi 0, vi 0] [] (z_cfg t, I, J) Q) : Go sc d mt_184 0 [vr 1835, vn, vn] [] (z_cfg t, I, J) Q := by
  obtain ⟨ts, te, tt, b1, b2, b3, b4, b5, b6⟩ := t
  · exact z_sound (f := false) (cuts := [4]) 300 0 [vr 1835, vn, vn] [] (z_tab (ts, te, tt, b1, b2, b3, b4, b5, b6) ++ t_l (ts, te, tt, b1, b2, b3, b4, b5, b6), t_s (ts, te, tt, b1, b2, b3, b4, b5, b6), I, J) h
set_option maxRecDepth 8000 in
theorem b184_4 {x1 x2 : Int} (h : (inR x2) ∧ ((inR (I 1835 3)) ∧ ((x2 < I 1835 3 → (0 ≤ x2 ∧ x2 < 2) ∧ Go sc d mt_184 4 [vr 1835, vi (zor x1 (zshl (I 2036 (x2).toNat) (16 + (2 * x2)))), vi (x2 + 1)] [] (z_cfg t, I, J) Q) ∧ (¬ x2 < I 1835 3 → (inR (I 1835 5)) ∧ ((I 1835 5 = ((-1) : Int) → Q (.inl (some (vi x1))) (z_cfg t, I, J)) ∧ (¬ I 1835 5 = ((-1) : Int) → Q (.inl (some (vi (zor x1 (zshl (I 1835 5) 20))))) (z_cfg t, I, J))))))) : Go sc d mt_184 4 [vr 1835, vi x1, vi x2] [] (z_cfg t, I, J) Q := by
  obtain ⟨ts, te, tt, b1, b2, b3, b4, b5, b6⟩ := t
  · exact z_sound (f := false) (cuts := [4]) 300 4 [vr 1835, vi x1, vi x2] [] (z_tab (ts, te, tt, b1, b2, b3, b4, b5, b6) ++ t_l (ts, te, tt, b1, b2, b3, b4, b5, b6), t_s (ts, te, tt, b1, b2, b3, b4, b5, b6), I, J) (show (inR x2) ∧ (inR (I 1835 3)) ∧ ((x2 < I 1835 3 → (0 ≤ x2 ∧ x2 < 2) ∧ Go sc d mt_184 4 [vr 1835, vi (zor x1 (zshl (I 2036 (x2).toNat) (16 + (2 * x2)))), vi (x2 + 1)] [] (z_cfg (ts, te, tt, b1, b2, b3, b4, b5, b6), I, J) Q) ∧ (¬ x2 < I 1835 3 → (inR (I 1835 5)) ∧ (inR (-1)) ∧ ((I 1835 5 = ((-1) : Int) → Q (.inl (some (vi x1))) (z_cfg (ts, te, tt, b1, b2, b3, b4, b5, b6), I, J)) ∧ (¬ I 1835 5 = ((-1) : Int) → Q (.inl (some (vi (zor x1 (zshl (I 1835 5) 20))))) (z_cfg (ts, te, tt, b1, b2, b3, b4, b5, b6), I, J))))) from ⟨h.1, ⟨h.2.1, ⟨fun c0 => ⟨(h.2.2.1 c0).1, (h.2.2.1 c0).2⟩, fun c0 => ⟨(h.2.2.2 c0).1, ⟨⟨by decide, by decide⟩, ⟨fun c1 => ((h.2.2.2 c0).2.1 c1), fun c1 => ((h.2.2.2 c0).2.2 c1)⟩⟩⟩⟩⟩⟩)
theorem c184 {w : zW} {K : zR → zW → Prop} (hd : 1 ≤ d) (h : ∀ d', d = d' + 1 → Go sc d' mt_184 0 [vr 1835, vn, vn] [] w K) : Cl sc d 184 [vr 1835] w K := Cl_of rfl hd h
/-! FerryHallModel thrown ()I -/
set_option maxRecDepth 8000 in
theorem b185_0 (h : Q (.inl (some (vi (I 1835 0)))) (z_cfg t, I, J)) : Go sc d mt_185 0 [vr 1835] [] (z_cfg t, I, J) Q := by
  obtain ⟨ts, te, tt, b1, b2, b3, b4, b5, b6⟩ := t
  · exact z_sound (f := false) (cuts := []) 300 0 [vr 1835] [] (z_tab (ts, te, tt, b1, b2, b3, b4, b5, b6) ++ t_l (ts, te, tt, b1, b2, b3, b4, b5, b6), t_s (ts, te, tt, b1, b2, b3, b4, b5, b6), I, J) h
theorem c185 {w : zW} {K : zR → zW → Prop} (hd : 1 ≤ d) (h : ∀ d', d = d' + 1 → Go sc d' mt_185 0 [vr 1835] [] w K) : Cl sc d 185 [vr 1835] w K := Cl_of rfl hd h
/-! FerryHallModel feed (IIIII)I -/
set_option maxRecDepth 8000 in
theorem b186_0 {x1 x2 x3 x4 x5 : Int} (h : (inR ((I 1835 18) + 20)) ∧ (((700 : Int) < (I 1835 18) + 20 → Q (.inl (some (vi (-1)))) (z_cfg t, z_u I 1835 0 0, J)) ∧ (¬ (700 : Int) < (I 1835 18) + 20 → Cl sc d 187 [vr 1835, vi x1] (z_cfg t, z_u I 1835 0 0, J) (z_k sc d mt_186 false 22 [vr 1835, vi x1, vi x2, vi x3, vi x4, vi x5] [] Q)))) : Go sc d mt_186 0 [vr 1835, vi x1, vi x2, vi x3, vi x4, vi x5] [] (z_cfg t, I, J) Q := by
  obtain ⟨ts, te, tt, b1, b2, b3, b4, b5, b6⟩ := t
  · exact z_sound (f := false) (cuts := []) 300 0 [vr 1835, vi x1, vi x2, vi x3, vi x4, vi x5] [] (z_tab (ts, te, tt, b1, b2, b3, b4, b5, b6) ++ t_l (ts, te, tt, b1, b2, b3, b4, b5, b6), t_s (ts, te, tt, b1, b2, b3, b4, b5, b6), I, J) (show (inR ((I 1835 18) + 20)) ∧ (inR 700) ∧ (((700 : Int) < (I 1835 18) + 20 → Q (.inl (some (vi (-1)))) (z_cfg (ts, te, tt, b1, b2, b3, b4, b5, b6), z_u I 1835 0 0, J)) ∧ (¬ (700 : Int) < (I 1835 18) + 20 → Cl sc d 187 [vr 1835, vi x1] (z_cfg (ts, te, tt, b1, b2, b3, b4, b5, b6), z_u I 1835 0 0, J) (z_k sc d mt_186 false 22 [vr 1835, vi x1, vi x2, vi x3, vi x4, vi x5] [] Q))) from ⟨h.1, ⟨⟨by decide, by decide⟩, ⟨fun c0 => (h.2.1 c0), fun c0 => (h.2.2 c0)⟩⟩⟩)
set_option maxRecDepth 8000 in
theorem b186_25 {x1 x2 x3 x4 x5 : Int} (h : Cl sc d 187 [vr 1835, vi x2] (z_cfg t, I, J) (z_k sc d mt_186 false 27 [vr 1835, vi x1, vi x2, vi x3, vi x4, vi x5] [] Q)) : Go sc d mt_186 25 [vr 1835, vi x1, vi x2, vi x3, vi x4, vi x5] [] (z_cfg t, I, J) Q := by
  obtain ⟨ts, te, tt, b1, b2, b3, b4, b5, b6⟩ := t
  · exact z_sound (f := false) (cuts := []) 300 25 [vr 1835, vi x1, vi x2, vi x3, vi x4, vi x5] [] (z_tab (ts, te, tt, b1, b2, b3, b4, b5, b6) ++ t_l (ts, te, tt, b1, b2, b3, b4, b5, b6), t_s (ts, te, tt, b1, b2, b3, b4, b5, b6), I, J) h
set_option maxRecDepth 8000 in
theorem b186_30 {x1 x2 x3 x4 x5 : Int} (h : Cl sc d 187 [vr 1835, vi x3] (z_cfg t, I, J) (z_k sc d mt_186 false 32 [vr 1835, vi x1, vi x2, vi x3, vi x4, vi x5] [] Q)) : Go sc d mt_186 30 [vr 1835, vi x1, vi x2, vi x3, vi x4, vi x5] [] (z_cfg t, I, J) Q := by
  obtain ⟨ts, te, tt, b1, b2, b3, b4, b5, b6⟩ := t
  · exact z_sound (f := false) (cuts := []) 300 30 [vr 1835, vi x1, vi x2, vi x3, vi x4, vi x5] [] (z_tab (ts, te, tt, b1, b2, b3, b4, b5, b6) ++ t_l (ts, te, tt, b1, b2, b3, b4, b5, b6), t_s (ts, te, tt, b1, b2, b3, b4, b5, b6), I, J) h
set_option maxRecDepth 8000 in
theorem b186_35 {x1 x2 x3 x4 x5 : Int} (h : Cl sc d 187 [vr 1835, vi x4] (z_cfg t, I, J) (z_k sc d mt_186 false 38 [vr 1835, vi x1, vi x2, vi x3, vi x4, vi x5] [] Q)) : Go sc d mt_186 35 [vr 1835, vi x1, vi x2, vi x3, vi x4, vi x5] [] (z_cfg t, I, J) Q := by
  obtain ⟨ts, te, tt, b1, b2, b3, b4, b5, b6⟩ := t
  · exact z_sound (f := false) (cuts := []) 300 35 [vr 1835, vi x1, vi x2, vi x3, vi x4, vi x5] [] (z_tab (ts, te, tt, b1, b2, b3, b4, b5, b6) ++ t_l (ts, te, tt, b1, b2, b3, b4, b5, b6), t_s (ts, te, tt, b1, b2, b3, b4, b5, b6), I, J) h
set_option maxRecDepth 8000 in
theorem b186_41 {x1 x2 x3 x4 x5 : Int} (h : Cl sc d 187 [vr 1835, vi x5] (z_cfg t, I, J) (z_k sc d mt_186 false 44 [vr 1835, vi x1, vi x2, vi x3, vi x4, vi x5] [] Q)) : Go sc d mt_186 41 [vr 1835, vi x1, vi x2, vi x3, vi x4, vi x5] [] (z_cfg t, I, J) Q := by
  obtain ⟨ts, te, tt, b1, b2, b3, b4, b5, b6⟩ := t
  · exact z_sound (f := false) (cuts := []) 300 41 [vr 1835, vi x1, vi x2, vi x3, vi x4, vi x5] [] (z_tab (ts, te, tt, b1, b2, b3, b4, b5, b6) ++ t_l (ts, te, tt, b1, b2, b3, b4, b5, b6), t_s (ts, te, tt, b1, b2, b3, b4, b5, b6), I, J) h
set_option maxRecDepth 8000 in
theorem b186_47 {x1 x2 x3 x4 x5 : Int} (h : Q (.inl (some (vi (I 1835 18)))) (z_cfg t, I, J)) : Go sc d mt_186 47 [vr 1835, vi x1, vi x2, vi x3, vi x4, vi x5] [] (z_cfg t, I, J) Q := by
  obtain ⟨ts, te, tt, b1, b2, b3, b4, b5, b6⟩ := t
  · exact z_sound (f := false) (cuts := []) 300 47 [vr 1835, vi x1, vi x2, vi x3, vi x4, vi x5] [] (z_tab (ts, te, tt, b1, b2, b3, b4, b5, b6) ++ t_l (ts, te, tt, b1, b2, b3, b4, b5, b6), t_s (ts, te, tt, b1, b2, b3, b4, b5, b6), I, J) h
theorem c186 {x1 x2 x3 x4 x5 : Int} {w : zW} {K : zR → zW → Prop} (hd : 1 ≤ d) (h : ∀ d', d = d' + 1 → Go sc d' mt_186 0 [vr 1835, vi x1, vi x2, vi x3, vi x4, vi x5] [] w K) : Cl sc d 186 [vr 1835, vi x1, vi x2, vi x3, vi x4, vi x5] w K := Cl_of rfl hd h
/-! FerryHallModel lays (I)V -/
set_option maxRecDepth 8000 in
theorem b187_0 {x1 : Int} (h : Go sc d mt_187 3 [vr 1835, vi x1, vi 24] [] (z_cfg t, I, J) Q) : Go sc d mt_187 0 [vr 1835, vi x1, vn] [] (z_cfg t, I, J) Q := by
  obtain ⟨ts, te, tt, b1, b2, b3, b4, b5, b6⟩ := t
  · exact z_sound (f := false) (cuts := [3]) 300 0 [vr 1835, vi x1, vn] [] (z_tab (ts, te, tt, b1, b2, b3, b4, b5, b6) ++ t_l (ts, te, tt, b1, b2, b3, b4, b5, b6), t_s (ts, te, tt, b1, b2, b3, b4, b5, b6), I, J) h
set_option maxRecDepth 8000 in
theorem b187_3 {x1 x2 : Int} (h : (inR x2) ∧ ((x2 < 0 → Q (.inl none) (z_cfg t, I, J)) ∧ (¬ x2 < 0 → (0 ≤ I 1835 18 ∧ I 1835 18 < 700) ∧ Go sc d mt_187 3 [vr 1835, vi x1, vi (x2 + (-8))] [] (z_cfg t, z_u (z_u I 2196 (I 1835 18).toNat (zand (zshr x1 x2) 255)) 1835 18 ((I 1835 18) + 1), J) Q))) : Go sc d mt_187 3 [vr 1835, vi x1, vi x2] [] (z_cfg t, I, J) Q := by
  obtain ⟨ts, te, tt, b1, b2, b3, b4, b5, b6⟩ := t
  · exact z_sound (f := false) (cuts := [3]) 300 3 [vr 1835, vi x1, vi x2] [] (z_tab (ts, te, tt, b1, b2, b3, b4, b5, b6) ++ t_l (ts, te, tt, b1, b2, b3, b4, b5, b6), t_s (ts, te, tt, b1, b2, b3, b4, b5, b6), I, J) h
theorem c187 {x1 : Int} {w : zW} {K : zR → zW → Prop} (hd : 1 ≤ d) (h : ∀ d', d = d' + 1 → Go sc d' mt_187 0 [vr 1835, vi x1, vn] [] w K) : Cl sc d 187 [vr 1835, vi x1] w K := Cl_of rfl hd h
/-! FerryHallModel text (I)I -/
set_option maxRecDepth 8000 in
theorem b188_0 {x1 : Int} (h : (inR x1) ∧ ((x1 < 0 → Go sc d mt_188 22 [vr 1835, vi x1, vn] [vr 1835] (z_cfg t, z_u I 1835 0 0, J) Q) ∧ (¬ x1 < 0 → (inR (I 1835 18)) ∧ ((I 1835 18 < x1 → Go sc d mt_188 22 [vr 1835, vi x1, vn] [vr 1835] (z_cfg t, z_u I 1835 0 0, J) Q) ∧ (¬ I 1835 18 < x1 → Go sc d mt_188 23 [vr 1835, vi x1, vn] [vi 1, vr 1835] (z_cfg t, z_u I 1835 0 0, J) Q))))) : Go sc d mt_188 0 [vr 1835, vi x1, vn] [] (z_cfg t, I, J) Q := by
  obtain ⟨ts, te, tt, b1, b2, b3, b4, b5, b6⟩ := t
  · exact z_sound (f := false) (cuts := [22, 23, 94, 159, 170, 191]) 300 0 [vr 1835, vi x1, vn] [] (z_tab (ts, te, tt, b1, b2, b3, b4, b5, b6) ++ t_l (ts, te, tt, b1, b2, b3, b4, b5, b6), t_s (ts, te, tt, b1, b2, b3, b4, b5, b6), I, J) (show (inR x1) ∧ ((x1 < 0 → Go sc d mt_188 22 [vr 1835, vi x1, vn] [vr 1835] (z_cfg (ts, te, tt, b1, b2, b3, b4, b5, b6), z_u I 1835 0 0, J) Q) ∧ (¬ x1 < 0 → (inR x1) ∧ (inR (I 1835 18)) ∧ ((I 1835 18 < x1 → Go sc d mt_188 22 [vr 1835, vi x1, vn] [vr 1835] (z_cfg (ts, te, tt, b1, b2, b3, b4, b5, b6), z_u I 1835 0 0, J) Q) ∧ (¬ I 1835 18 < x1 → Go sc d mt_188 23 [vr 1835, vi x1, vn] [vi 1, vr 1835] (z_cfg (ts, te, tt, b1, b2, b3, b4, b5, b6), z_u I 1835 0 0, J) Q)))) from ⟨h.1, ⟨fun c0 => (h.2.1 c0), fun c0 => ⟨h.1, ⟨(h.2.2 c0).1, ⟨fun c1 => ((h.2.2 c0).2.1 c1), fun c1 => ((h.2.2 c0).2.2 c1)⟩⟩⟩⟩⟩)
set_option maxRecDepth 8000 in
theorem b188_22 {x1 : Int} (h : Go sc d mt_188 23 [vr 1835, vi x1, vn] [vi 0, vr 1835] (z_cfg t, I, J) Q) : Go sc d mt_188 22 [vr 1835, vi x1, vn] [vr 1835] (z_cfg t, I, J) Q := by
  obtain ⟨ts, te, tt, b1, b2, b3, b4, b5, b6⟩ := t
  · exact z_sound (f := false) (cuts := [22, 23, 94, 159, 170, 191]) 300 22 [vr 1835, vi x1, vn] [vr 1835] (z_tab (ts, te, tt, b1, b2, b3, b4, b5, b6) ++ t_l (ts, te, tt, b1, b2, b3, b4, b5, b6), t_s (ts, te, tt, b1, b2, b3, b4, b5, b6), I, J) h
set_option maxRecDepth 8000 in
theorem b188_23 {x1 s0 : Int} (h : Cl sc d 189 [vr 1835, vi s0, vi 1] (z_cfg t, I, J) (z_k sc d mt_188 false 24 [vr 1835, vi x1, vn] [] Q)) : Go sc d mt_188 23 [vr 1835, vi x1, vn] [vi s0, vr 1835] (z_cfg t, I, J) Q := by
  obtain ⟨ts, te, tt, b1, b2, b3, b4, b5, b6⟩ := t
  · exact z_sound (f := false) (cuts := [22, 23, 94, 159, 170, 191]) 300 23 [vr 1835, vi x1, vn] [vi s0, vr 1835] (z_tab (ts, te, tt, b1, b2, b3, b4, b5, b6) ++ t_l (ts, te, tt, b1, b2, b3, b4, b5, b6), t_s (ts, te, tt, b1, b2, b3, b4, b5, b6), I, J) h
set_option maxRecDepth 8000 in
theorem b188_27 {x1 s0 : Int} (h : (inR s0) ∧ ((s0 = 0 → Q (.inl (some (vi 0))) (z_cfg t, I, J)) ∧ (¬ s0 = 0 → Go sc d mt_188 94 [vr 1835, vi x1, vi 0] [] (z_cfg t, z_u (z_u (z_u (z_u (z_u (z_u (z_u (z_u (z_u (z_u (z_u (z_u I 1835 18 0) 1835 20 (-1)) 1835 19 0) 1835 21 x1) 1835 22 0) 1835 29 2) 1835 30 0) 1835 31 0) 1835 32 0) 1835 33 (-1)) 1835 37 0) 1835 34 0, J) Q))) : Go sc d mt_188 27 [vr 1835, vi x1, vn] [vi s0] (z_cfg t, I, J) Q := by
  obtain ⟨ts, te, tt, b1, b2, b3, b4, b5, b6⟩ := t
  · exact z_sound (f := false) (cuts := [22, 23, 94, 159, 170, 191]) 300 27 [vr 1835, vi x1, vn] [vi s0] (z_tab (ts, te, tt, b1, b2, b3, b4, b5, b6) ++ t_l (ts, te, tt, b1, b2, b3, b4, b5, b6), t_s (ts, te, tt, b1, b2, b3, b4, b5, b6), I, J) (show (inR s0) ∧ ((s0 = 0 → Q (.inl (some (vi 0))) (z_cfg (ts, te, tt, b1, b2, b3, b4, b5, b6), I, J)) ∧ (¬ s0 = 0 → ((0 : Int) = 0 ∨ (0 : Int) = 1) ∧ Go sc d mt_188 94 [vr 1835, vi x1, vi 0] [] (z_cfg (ts, te, tt, b1, b2, b3, b4, b5, b6), z_u (z_u (z_u (z_u (z_u (z_u (z_u (z_u (z_u (z_u (z_u (z_u I 1835 18 0) 1835 20 (-1)) 1835 19 0) 1835 21 x1) 1835 22 0) 1835 29 2) 1835 30 0) 1835 31 0) 1835 32 0) 1835 33 (-1)) 1835 37 0) 1835 34 0, J) Q)) from ⟨h.1, ⟨fun c0 => (h.2.1 c0), fun c0 => ⟨by decide, (h.2.2 c0)⟩⟩⟩)
set_option maxRecDepth 8000 in
theorem b188_94 {x1 x2 : Int} (h : (inR x2) ∧ ((x2 < (16 : Int) → (0 ≤ x2 ∧ x2 < 16) ∧ Go sc d mt_188 94 [vr 1835, vi x1, vi (x2 + 1)] [] (z_cfg t, z_u I 2550 (x2).toNat (znz 0), J) Q) ∧ (¬ x2 < (16 : Int) → Cl sc d 190 [vr 1835] (z_cfg t, I, J) (z_k sc d mt_188 false 114 [vr 1835, vi x1, vi x2] [] Q)))) : Go sc d mt_188 94 [vr 1835, vi x1, vi x2] [] (z_cfg t, I, J) Q := by
  obtain ⟨ts, te, tt, b1, b2, b3, b4, b5, b6⟩ := t
  · exact z_sound (f := false) (cuts := [22, 23, 94, 159, 170, 191]) 300 94 [vr 1835, vi x1, vi x2] [] (z_tab (ts, te, tt, b1, b2, b3, b4, b5, b6) ++ t_l (ts, te, tt, b1, b2, b3, b4, b5, b6), t_s (ts, te, tt, b1, b2, b3, b4, b5, b6), I, J) (show (inR x2) ∧ (inR 16) ∧ ((x2 < (16 : Int) → (0 ≤ x2 ∧ x2 < 16) ∧ Go sc d mt_188 94 [vr 1835, vi x1, vi (x2 + 1)] [] (z_cfg (ts, te, tt, b1, b2, b3, b4, b5, b6), z_u I 2550 (x2).toNat (znz 0), J) Q) ∧ (¬ x2 < (16 : Int) → Cl sc d 190 [vr 1835] (z_cfg (ts, te, tt, b1, b2, b3, b4, b5, b6), I, J) (z_k sc d mt_188 false 114 [vr 1835, vi x1, vi x2] [] Q))) from ⟨h.1, ⟨⟨by decide, by decide⟩, ⟨fun c0 => ⟨(h.2.1 c0).1, (h.2.1 c0).2⟩, fun c0 => (h.2.2 c0)⟩⟩⟩)
set_option maxRecDepth 8000 in
theorem b188_117 {x1 x2 : Int} (h : Cl sc d 194 [vr 1835] (z_cfg t, I, J) (z_k sc d mt_188 false 118 [vr 1835, vi x1, vi x2] [] Q)) : Go sc d mt_188 117 [vr 1835, vi x1, vi x2] [] (z_cfg t, I, J) Q := by
  obtain ⟨ts, te, tt, b1, b2, b3, b4, b5, b6⟩ := t
  · exact z_sound (f := false) (cuts := [22, 23, 94, 159, 170, 191]) 300 117 [vr 1835, vi x1, vi x2] [] (z_tab (ts, te, tt, b1, b2, b3, b4, b5, b6) ++ t_l (ts, te, tt, b1, b2, b3, b4, b5, b6), t_s (ts, te, tt, b1, b2, b3, b4, b5, b6), I, J) h
set_option maxRecDepth 8000 in
theorem b188_121 {x1 x2 s0 : Int} (h : (inR s0) ∧ ((s0 = 0 → Cl sc d 190 [vr 1835] (z_cfg t, I, J) (z_k sc d mt_188 false 125 [vr 1835, vi x1, vi x2] [] Q)) ∧ (¬ s0 = 0 → Go sc d mt_188 170 [vr 1835, vi x1, vi x2] [] (z_cfg t, I, J) Q))) : Go sc d mt_188 121 [vr 1835, vi x1, vi x2] [vi s0] (z_cfg t, I, J) Q := by
  obtain ⟨ts, te, tt, b1, b2, b3, b4, b5, b6⟩ := t
  · exact z_sound (f := false) (cuts := [22, 23, 94, 159, 170, 191]) 300 121 [vr 1835, vi x1, vi x2] [vi s0] (z_tab (ts, te, tt, b1, b2, b3, b4, b5, b6) ++ t_l (ts, te, tt, b1, b2, b3, b4, b5, b6), t_s (ts, te, tt, b1, b2, b3, b4, b5, b6), I, J) h
set_option maxRecDepth 8000 in
theorem b188_128 {x1 x2 : Int} (h : Cl sc d 197 [vr 1835, vi 2, vi 4] (z_cfg t, I, J) (z_k sc d mt_188 false 132 [vr 1835, vi x1, vi x2] [vr 1835] Q)) : Go sc d mt_188 128 [vr 1835, vi x1, vi x2] [] (z_cfg t, I, J) Q := by
  obtain ⟨ts, te, tt, b1, b2, b3, b4, b5, b6⟩ := t
  · exact z_sound (f := false) (cuts := [22, 23, 94, 159, 170, 191]) 300 128 [vr 1835, vi x1, vi x2] [] (z_tab (ts, te, tt, b1, b2, b3, b4, b5, b6) ++ t_l (ts, te, tt, b1, b2, b3, b4, b5, b6), t_s (ts, te, tt, b1, b2, b3, b4, b5, b6), I, J) h
set_option maxRecDepth 8000 in
theorem b188_135 {x1 x2 s0 : Int} (h : Cl sc d 198 [vr 1835] (z_cfg t, z_u I 1835 29 s0, J) (z_k sc d mt_188 false 139 [vr 1835, vi x1, vi x2] [] Q)) : Go sc d mt_188 135 [vr 1835, vi x1, vi x2] [vi s0, vr 1835] (z_cfg t, I, J) Q := by
  obtain ⟨ts, te, tt, b1, b2, b3, b4, b5, b6⟩ := t
  · exact z_sound (f := false) (cuts := [22, 23, 94, 159, 170, 191]) 300 135 [vr 1835, vi x1, vi x2] [vi s0, vr 1835] (z_tab (ts, te, tt, b1, b2, b3, b4, b5, b6) ++ t_l (ts, te, tt, b1, b2, b3, b4, b5, b6), t_s (ts, te, tt, b1, b2, b3, b4, b5, b6), I, J) h
set_option maxRecDepth 8000 in
theorem b188_142 {x1 x2 s0 : Int} (h : (inR s0) ∧ ((s0 = 0 → Go sc d mt_188 159 [vr 1835, vi x1, vi x2] [] (z_cfg t, I, J) Q) ∧ (¬ s0 = 0 → Cl sc d 200 [vr 1835, vi 59] (z_cfg t, I, J) (z_k sc d mt_188 false 148 [vr 1835, vi x1, vi x2] [] Q)))) : Go sc d mt_188 142 [vr 1835, vi x1, vi x2] [vi s0] (z_cfg t, I, J) Q := by
  obtain ⟨ts, te, tt, b1, b2, b3, b4, b5, b6⟩ := t
  · exact z_sound (f := false) (cuts := [22, 23, 94, 159, 170, 191]) 300 142 [vr 1835, vi x1, vi x2] [vi s0] (z_tab (ts, te, tt, b1, b2, b3, b4, b5, b6) ++ t_l (ts, te, tt, b1, b2, b3, b4, b5, b6), t_s (ts, te, tt, b1, b2, b3, b4, b5, b6), I, J) h
set_option maxRecDepth 8000 in
theorem b188_151 {x1 x2 s0 : Int} (h : (inR s0) ∧ ((s0 = 0 → Cl sc d 199 [vr 1835, vi 1] (z_cfg t, I, J) (z_k sc d mt_188 false 156 [vr 1835, vi x1, vi x2] [] Q)) ∧ (¬ s0 = 0 → Go sc d mt_188 159 [vr 1835, vi x1, vi x2] [] (z_cfg t, I, J) Q))) : Go sc d mt_188 151 [vr 1835, vi x1, vi x2] [vi s0] (z_cfg t, I, J) Q := by
  obtain ⟨ts, te, tt, b1, b2, b3, b4, b5, b6⟩ := t
  · exact z_sound (f := false) (cuts := [22, 23, 94, 159, 170, 191]) 300 151 [vr 1835, vi x1, vi x2] [vi s0] (z_tab (ts, te, tt, b1, b2, b3, b4, b5, b6) ++ t_l (ts, te, tt, b1, b2, b3, b4, b5, b6), t_s (ts, te, tt, b1, b2, b3, b4, b5, b6), I, J) h
set_option maxRecDepth 8000 in
theorem b188_159 {x1 x2 : Int} (h : Cl sc d 198 [vr 1835] (z_cfg t, I, J) (z_k sc d mt_188 false 160 [vr 1835, vi x1, vi x2] [] Q)) : Go sc d mt_188 159 [vr 1835, vi x1, vi x2] [] (z_cfg t, I, J) Q := by
  obtain ⟨ts, te, tt, b1, b2, b3, b4, b5, b6⟩ := t
  · exact z_sound (f := false) (cuts := [22, 23, 94, 159, 170, 191]) 300 159 [vr 1835, vi x1, vi x2] [] (z_tab (ts, te, tt, b1, b2, b3, b4, b5, b6) ++ t_l (ts, te, tt, b1, b2, b3, b4, b5, b6), t_s (ts, te, tt, b1, b2, b3, b4, b5, b6), I, J) h
set_option maxRecDepth 8000 in
theorem b188_163 {x1 x2 s0 : Int} (h : (inR s0) ∧ ((s0 = 0 → Go sc d mt_188 170 [vr 1835, vi x1, vi x2] [] (z_cfg t, I, J) Q) ∧ (¬ s0 = 0 → Cl sc d 190 [vr 1835] (z_cfg t, I, J) (z_k sc d mt_188 false 167 [vr 1835, vi x1, vi x2] [] Q)))) : Go sc d mt_188 163 [vr 1835, vi x1, vi x2] [vi s0] (z_cfg t, I, J) Q := by
  obtain ⟨ts, te, tt, b1, b2, b3, b4, b5, b6⟩ := t
  · exact z_sound (f := false) (cuts := [22, 23, 94, 159, 170, 191]) 300 163 [vr 1835, vi x1, vi x2] [vi s0] (z_tab (ts, te, tt, b1, b2, b3, b4, b5, b6) ++ t_l (ts, te, tt, b1, b2, b3, b4, b5, b6), t_s (ts, te, tt, b1, b2, b3, b4, b5, b6), I, J) h
set_option maxRecDepth 8000 in
theorem b188_170 {x1 x2 : Int} (h : Cl sc d 198 [vr 1835] (z_cfg t, I, J) (z_k sc d mt_188 false 171 [vr 1835, vi x1, vi x2] [] Q)) : Go sc d mt_188 170 [vr 1835, vi x1, vi x2] [] (z_cfg t, I, J) Q := by
  obtain ⟨ts, te, tt, b1, b2, b3, b4, b5, b6⟩ := t
  · exact z_sound (f := false) (cuts := [22, 23, 94, 159, 170, 191]) 300 170 [vr 1835, vi x1, vi x2] [] (z_tab (ts, te, tt, b1, b2, b3, b4, b5, b6) ++ t_l (ts, te, tt, b1, b2, b3, b4, b5, b6), t_s (ts, te, tt, b1, b2, b3, b4, b5, b6), I, J) h
set_option maxRecDepth 8000 in
theorem b188_174 {x1 x2 s0 : Int} (h : (inR s0) ∧ ((s0 = 0 → Go sc d mt_188 191 [vr 1835, vi x1, vi x2] [] (z_cfg t, I, J) Q) ∧ (¬ s0 = 0 → (inR (I 1835 23)) ∧ ((I 1835 23 = 0 → Go sc d mt_188 191 [vr 1835, vi x1, vi x2] [] (z_cfg t, I, J) Q) ∧ (¬ I 1835 23 = 0 → Cl sc d 201 [vr 1835] (z_cfg t, I, J) (z_k sc d mt_188 false 185 [vr 1835, vi x1, vi x2] [] Q)))))) : Go sc d mt_188 174 [vr 1835, vi x1, vi x2] [vi s0] (z_cfg t, I, J) Q := by
  obtain ⟨ts, te, tt, b1, b2, b3, b4, b5, b6⟩ := t
  · exact z_sound (f := false) (cuts := [22, 23, 94, 159, 170, 191]) 300 174 [vr 1835, vi x1, vi x2] [vi s0] (z_tab (ts, te, tt, b1, b2, b3, b4, b5, b6) ++ t_l (ts, te, tt, b1, b2, b3, b4, b5, b6), t_s (ts, te, tt, b1, b2, b3, b4, b5, b6), I, J) h
set_option maxRecDepth 8000 in
theorem b188_188 {x1 x2 : Int} (h : Go sc d mt_188 170 [vr 1835, vi x1, vi x2] [] (z_cfg t, I, J) Q) : Go sc d mt_188 188 [vr 1835, vi x1, vi x2] [] (z_cfg t, I, J) Q := by
  obtain ⟨ts, te, tt, b1, b2, b3, b4, b5, b6⟩ := t
  · exact z_sound (f := false) (cuts := [22, 23, 94, 159, 170, 191]) 300 188 [vr 1835, vi x1, vi x2] [] (z_tab (ts, te, tt, b1, b2, b3, b4, b5, b6) ++ t_l (ts, te, tt, b1, b2, b3, b4, b5, b6), t_s (ts, te, tt, b1, b2, b3, b4, b5, b6), I, J) h
set_option maxRecDepth 8000 in
theorem b188_191 {x1 x2 : Int} (h : Cl sc d 198 [vr 1835] (z_cfg t, I, J) (z_k sc d mt_188 false 192 [vr 1835, vi x1, vi x2] [] Q)) : Go sc d mt_188 191 [vr 1835, vi x1, vi x2] [] (z_cfg t, I, J) Q := by
  obtain ⟨ts, te, tt, b1, b2, b3, b4, b5, b6⟩ := t
  · exact z_sound (f := false) (cuts := [22, 23, 94, 159, 170, 191]) 300 191 [vr 1835, vi x1, vi x2] [] (z_tab (ts, te, tt, b1, b2, b3, b4, b5, b6) ++ t_l (ts, te, tt, b1, b2, b3, b4, b5, b6), t_s (ts, te, tt, b1, b2, b3, b4, b5, b6), I, J) h
set_option maxRecDepth 8000 in
theorem b188_195 {x1 x2 s0 : Int} (h : (inR s0) ∧ ((s0 = 0 → Q (.inl (some (vi (I 1835 19)))) (z_cfg t, I, J)) ∧ (¬ s0 = 0 → Cl sc d 218 [vr 1835] (z_cfg t, I, J) (z_k sc d mt_188 false 204 [vr 1835, vi x1, vi x2] [] Q)))) : Go sc d mt_188 195 [vr 1835, vi x1, vi x2] [vi s0] (z_cfg t, I, J) Q := by
  obtain ⟨ts, te, tt, b1, b2, b3, b4, b5, b6⟩ := t
  · exact z_sound (f := false) (cuts := [22, 23, 94, 159, 170, 191]) 300 195 [vr 1835, vi x1, vi x2] [vi s0] (z_tab (ts, te, tt, b1, b2, b3, b4, b5, b6) ++ t_l (ts, te, tt, b1, b2, b3, b4, b5, b6), t_s (ts, te, tt, b1, b2, b3, b4, b5, b6), I, J) h
set_option maxRecDepth 8000 in
theorem b188_207 {x1 x2 : Int} (h : Cl sc d 183 [vr 1835] (z_cfg t, I, J) (z_k sc d mt_188 false 208 [vr 1835, vi x1, vi x2] [] Q)) : Go sc d mt_188 207 [vr 1835, vi x1, vi x2] [] (z_cfg t, I, J) Q := by
  obtain ⟨ts, te, tt, b1, b2, b3, b4, b5, b6⟩ := t
  · exact z_sound (f := false) (cuts := [22, 23, 94, 159, 170, 191]) 300 207 [vr 1835, vi x1, vi x2] [] (z_tab (ts, te, tt, b1, b2, b3, b4, b5, b6) ++ t_l (ts, te, tt, b1, b2, b3, b4, b5, b6), t_s (ts, te, tt, b1, b2, b3, b4, b5, b6), I, J) h
set_option maxRecDepth 8000 in
theorem b188_211 {x1 x2 : Int} (h : Q (.inl (some (vi 0))) (z_cfg t, I, J)) : Go sc d mt_188 211 [vr 1835, vi x1, vi x2] [] (z_cfg t, I, J) Q := by
  obtain ⟨ts, te, tt, b1, b2, b3, b4, b5, b6⟩ := t
  · exact z_sound (f := false) (cuts := [22, 23, 94, 159, 170, 191]) 300 211 [vr 1835, vi x1, vi x2] [] (z_tab (ts, te, tt, b1, b2, b3, b4, b5, b6) ++ t_l (ts, te, tt, b1, b2, b3, b4, b5, b6), t_s (ts, te, tt, b1, b2, b3, b4, b5, b6), I, J) h
theorem c188 {x1 : Int} {w : zW} {K : zR → zW → Prop} (hd : 1 ≤ d) (h : ∀ d', d = d' + 1 → Go sc d' mt_188 0 [vr 1835, vi x1, vn] [] w K) : Cl sc d 188 [vr 1835, vi x1] w K := Cl_of rfl hd h
/-! FerryHallModel right (ZI)Z -/
set_option maxRecDepth 8000 in
theorem b189_0 {x1 x2 : Int} (h : (inR (I 1835 0)) ∧ ((I 1835 0 = 0 → (inR x1) ∧ ((x1 = 0 → Go sc d mt_189 16 [vr 1835, vi x1, vi x2] [] (z_cfg t, z_u I 1835 0 x2, J) Q) ∧ (¬ x1 = 0 → Go sc d mt_189 16 [vr 1835, vi x1, vi x2] [] (z_cfg t, I, J) Q))) ∧ (¬ I 1835 0 = 0 → Go sc d mt_189 16 [vr 1835, vi x1, vi x2] [] (z_cfg t, I, J) Q))) : Go sc d mt_189 0 [vr 1835, vi x1, vi x2] [] (z_cfg t, I, J) Q := by
  obtain ⟨ts, te, tt, b1, b2, b3, b4, b5, b6⟩ := t
  · exact z_sound (f := false) (cuts := [16]) 300 0 [vr 1835, vi x1, vi x2] [] (z_tab (ts, te, tt, b1, b2, b3, b4, b5, b6) ++ t_l (ts, te, tt, b1, b2, b3, b4, b5, b6), t_s (ts, te, tt, b1, b2, b3, b4, b5, b6), I, J) h
set_option maxRecDepth 8000 in
theorem b189_16 {x1 x2 : Int} (h : (inR (I 1835 0)) ∧ ((I 1835 0 = 0 → Q (.inl (some (vi 1))) (z_cfg t, I, J)) ∧ (¬ I 1835 0 = 0 → Q (.inl (some (vi 0))) (z_cfg t, I, J)))) : Go sc d mt_189 16 [vr 1835, vi x1, vi x2] [] (z_cfg t, I, J) Q := by
  obtain ⟨ts, te, tt, b1, b2, b3, b4, b5, b6⟩ := t
  · exact z_sound (f := false) (cuts := [16]) 300 16 [vr 1835, vi x1, vi x2] [] (z_tab (ts, te, tt, b1, b2, b3, b4, b5, b6) ++ t_l (ts, te, tt, b1, b2, b3, b4, b5, b6), t_s (ts, te, tt, b1, b2, b3, b4, b5, b6), I, J) (show (inR (I 1835 0)) ∧ ((I 1835 0 = 0 → ((1 : Int) = 0 ∨ (1 : Int) = 1) ∧ Q (.inl (some (vi 1))) (z_cfg (ts, te, tt, b1, b2, b3, b4, b5, b6), I, J)) ∧ (¬ I 1835 0 = 0 → ((0 : Int) = 0 ∨ (0 : Int) = 1) ∧ Q (.inl (some (vi 0))) (z_cfg (ts, te, tt, b1, b2, b3, b4, b5, b6), I, J))) from ⟨h.1, ⟨fun c0 => ⟨by decide, (h.2.1 c0)⟩, fun c0 => ⟨by decide, (h.2.2 c0)⟩⟩⟩)
theorem c189 {x1 x2 : Int} {w : zW} {K : zR → zW → Prop} (hd : 1 ≤ d) (h : ∀ d', d = d' + 1 → Go sc d' mt_189 0 [vr 1835, vi x1, vi x2] [] w K) : Cl sc d 189 [vr 1835, vi x1, vi x2] w K := Cl_of rfl hd h
/-! FerryHallModel goes ()V -/
set_option maxRecDepth 8000 in
theorem b190_0 (h : (inR (I 1835 22)) ∧ ((inR (I 1835 21)) ∧ ((I 1835 22 < I 1835 21 → Cl sc d 191 [vr 1835, vi (I 1835 22)] (z_cfg t, I, J) (z_k sc d mt_190 false 16 [vr 1835, vn] [] Q)) ∧ (¬ I 1835 22 < I 1835 21 → Go sc d mt_190 50 [vr 1835, vn] [] (z_cfg t, I, J) Q)))) : Go sc d mt_190 0 [vr 1835, vn] [] (z_cfg t, I, J) Q := by
  obtain ⟨ts, te, tt, b1, b2, b3, b4, b5, b6⟩ := t
  · exact z_sound (f := false) (cuts := [0, 37, 50, 108, 159, 187, 237, 323, 328, 331]) 300 0 [vr 1835, vn] [] (z_tab (ts, te, tt, b1, b2, b3, b4, b5, b6) ++ t_l (ts, te, tt, b1, b2, b3, b4, b5, b6), t_s (ts, te, tt, b1, b2, b3, b4, b5, b6), I, J) h
set_option maxRecDepth 8000 in
theorem b190_19 {s0 : Int} (h : (inR s0) ∧ ((s0 = (32 : Int) → Go sc d mt_190 37 [vr 1835, vn] [] (z_cfg t, I, J) Q) ∧ (¬ s0 = (32 : Int) → Cl sc d 191 [vr 1835, vi (I 1835 22)] (z_cfg t, I, J) (z_k sc d mt_190 false 29 [vr 1835, vn] [] Q)))) : Go sc d mt_190 19 [vr 1835, vn] [vi s0] (z_cfg t, I, J) Q := by
  obtain ⟨ts, te, tt, b1, b2, b3, b4, b5, b6⟩ := t
  · exact z_sound (f := false) (cuts := [0, 37, 50, 108, 159, 187, 237, 323, 328, 331]) 300 19 [vr 1835, vn] [vi s0] (z_tab (ts, te, tt, b1, b2, b3, b4, b5, b6) ++ t_l (ts, te, tt, b1, b2, b3, b4, b5, b6), t_s (ts, te, tt, b1, b2, b3, b4, b5, b6), I, J) (show (inR s0) ∧ (inR 32) ∧ ((s0 = (32 : Int) → Go sc d mt_190 37 [vr 1835, vn] [] (z_cfg (ts, te, tt, b1, b2, b3, b4, b5, b6), I, J) Q) ∧ (¬ s0 = (32 : Int) → Cl sc d 191 [vr 1835, vi (I 1835 22)] (z_cfg (ts, te, tt, b1, b2, b3, b4, b5, b6), I, J) (z_k sc d mt_190 false 29 [vr 1835, vn] [] Q))) from ⟨h.1, ⟨⟨by decide, by decide⟩, ⟨fun c0 => (h.2.1 c0), fun c0 => (h.2.2 c0)⟩⟩⟩)
set_option maxRecDepth 8000 in
theorem b190_32 {s0 : Int} (h : (inR s0) ∧ ((s0 = (10 : Int) → Go sc d mt_190 37 [vr 1835, vn] [] (z_cfg t, I, J) Q) ∧ (¬ s0 = (10 : Int) → Go sc d mt_190 50 [vr 1835, vn] [] (z_cfg t, I, J) Q))) : Go sc d mt_190 32 [vr 1835, vn] [vi s0] (z_cfg t, I, J) Q := by
  obtain ⟨ts, te, tt, b1, b2, b3, b4, b5, b6⟩ := t
  · exact z_sound (f := false) (cuts := [0, 37, 50, 108, 159, 187, 237, 323, 328, 331]) 300 32 [vr 1835, vn] [vi s0] (z_tab (ts, te, tt, b1, b2, b3, b4, b5, b6) ++ t_l (ts, te, tt, b1, b2, b3, b4, b5, b6), t_s (ts, te, tt, b1, b2, b3, b4, b5, b6), I, J) (show (inR s0) ∧ (inR 10) ∧ ((s0 = (10 : Int) → Go sc d mt_190 37 [vr 1835, vn] [] (z_cfg (ts, te, tt, b1, b2, b3, b4, b5, b6), I, J) Q) ∧ (¬ s0 = (10 : Int) → Go sc d mt_190 50 [vr 1835, vn] [] (z_cfg (ts, te, tt, b1, b2, b3, b4, b5, b6), I, J) Q)) from ⟨h.1, ⟨⟨by decide, by decide⟩, ⟨fun c0 => (h.2.1 c0), fun c0 => (h.2.2 c0)⟩⟩⟩)
set_option maxRecDepth 8000 in
theorem b190_37 (h : Go sc d mt_190 0 [vr 1835, vn] [] (z_cfg t, z_u I 1835 22 ((I 1835 22) + 1), J) Q) : Go sc d mt_190 37 [vr 1835, vn] [] (z_cfg t, I, J) Q := by
  obtain ⟨ts, te, tt, b1, b2, b3, b4, b5, b6⟩ := t
  · exact z_sound (f := false) (cuts := [0, 37, 50, 108, 159, 187, 237, 323, 328, 331]) 300 37 [vr 1835, vn] [] (z_tab (ts, te, tt, b1, b2, b3, b4, b5, b6) ++ t_l (ts, te, tt, b1, b2, b3, b4, b5, b6), t_s (ts, te, tt, b1, b2, b3, b4, b5, b6), I, J) h
set_option maxRecDepth 8000 in
theorem b190_50 (h : Cl sc d 191 [vr 1835, vi (I 1835 22)] (z_cfg t, z_u (z_u I 1835 24 (I 1835 22)) 1835 26 0, z_u J 1835 28 0) (z_k sc d mt_190 false 73 [vr 1835, vn] [] Q)) : Go sc d mt_190 50 [vr 1835, vn] [] (z_cfg t, I, J) Q := by
  obtain ⟨ts, te, tt, b1, b2, b3, b4, b5, b6⟩ := t
  · exact z_sound (f := false) (cuts := [0, 37, 50, 108, 159, 187, 237, 323, 328, 331]) 300 50 [vr 1835, vn] [] (z_tab (ts, te, tt, b1, b2, b3, b4, b5, b6) ++ t_l (ts, te, tt, b1, b2, b3, b4, b5, b6), t_s (ts, te, tt, b1, b2, b3, b4, b5, b6), I, J) h
set_option maxRecDepth 8000 in
theorem b190_76 {s0 : Int} (h : (inR (I 1835 22)) ∧ ((inR (I 1835 21)) ∧ ((I 1835 22 < I 1835 21 → Cl sc d 192 [vi s0] (z_cfg t, z_u I 1835 27 s0, J) (z_k sc d mt_190 false 102 [vr 1835, vi s0] [] Q)) ∧ (¬ I 1835 22 < I 1835 21 → Go sc d mt_190 331 [vr 1835, vi s0] [] (z_cfg t, z_u (z_u I 1835 27 s0) 1835 23 0, J) Q)))) : Go sc d mt_190 76 [vr 1835, vn] [vi s0] (z_cfg t, I, J) Q := by
  obtain ⟨ts, te, tt, b1, b2, b3, b4, b5, b6⟩ := t
  · exact z_sound (f := false) (cuts := [0, 37, 50, 108, 159, 187, 237, 323, 328, 331]) 300 76 [vr 1835, vn] [vi s0] (z_tab (ts, te, tt, b1, b2, b3, b4, b5, b6) ++ t_l (ts, te, tt, b1, b2, b3, b4, b5, b6), t_s (ts, te, tt, b1, b2, b3, b4, b5, b6), I, J) h
set_option maxRecDepth 8000 in
theorem b190_105 {x1 s0 : Int} (h : (inR s0) ∧ ((s0 = 0 → Cl sc d 193 [vi x1] (z_cfg t, I, J) (z_k sc d mt_190 false 181 [vr 1835, vi x1] [] Q)) ∧ (¬ s0 = 0 → Go sc d mt_190 108 [vr 1835, vi x1] [] (z_cfg t, I, J) Q))) : Go sc d mt_190 105 [vr 1835, vi x1] [vi s0] (z_cfg t, I, J) Q := by
  obtain ⟨ts, te, tt, b1, b2, b3, b4, b5, b6⟩ := t
  · exact z_sound (f := false) (cuts := [0, 37, 50, 108, 159, 187, 237, 323, 328, 331]) 300 105 [vr 1835, vi x1] [vi s0] (z_tab (ts, te, tt, b1, b2, b3, b4, b5, b6) ++ t_l (ts, te, tt, b1, b2, b3, b4, b5, b6), t_s (ts, te, tt, b1, b2, b3, b4, b5, b6), I, J) h
set_option maxRecDepth 8000 in
theorem b190_108 {x1 : Int} (h : Cl sc d 191 [vr 1835, vi (I 1835 22)] (z_cfg t, I, J) (z_k sc d mt_190 false 113 [vr 1835, vi x1] [] Q)) : Go sc d mt_190 108 [vr 1835, vi x1] [] (z_cfg t, I, J) Q := by
  obtain ⟨ts, te, tt, b1, b2, b3, b4, b5, b6⟩ := t
  · exact z_sound (f := false) (cuts := [0, 37, 50, 108, 159, 187, 237, 323, 328, 331]) 300 108 [vr 1835, vi x1] [] (z_tab (ts, te, tt, b1, b2, b3, b4, b5, b6) ++ t_l (ts, te, tt, b1, b2, b3, b4, b5, b6), t_s (ts, te, tt, b1, b2, b3, b4, b5, b6), I, J) h
set_option maxRecDepth 8000 in
theorem b190_116 {x1 s0 : Int} (h : Cl sc d 192 [vi s0] (z_cfg t, I, J) (z_k sc d mt_190 false 116 [vr 1835, vi x1] [] Q)) : Go sc d mt_190 116 [vr 1835, vi x1] [vi s0] (z_cfg t, I, J) Q := by
  obtain ⟨ts, te, tt, b1, b2, b3, b4, b5, b6⟩ := t
  · exact z_sound (f := false) (cuts := [0, 37, 50, 108, 159, 187, 237, 323, 328, 331]) 300 116 [vr 1835, vi x1] [vi s0] (z_tab (ts, te, tt, b1, b2, b3, b4, b5, b6) ++ t_l (ts, te, tt, b1, b2, b3, b4, b5, b6), t_s (ts, te, tt, b1, b2, b3, b4, b5, b6), I, J) h
set_option maxRecDepth 8000 in
theorem b190_119 {x1 s0 : Int} (h : (inR s0) ∧ ((s0 = 0 → Go sc d mt_190 331 [vr 1835, vi x1] [] (z_cfg t, z_u I 1835 23 1, J) Q) ∧ (¬ s0 = 0 → (inR ((I 1835 22) - (I 1835 24))) ∧ (((I 1835 22) - (I 1835 24) < (7 : Int) → Cl sc d 191 [vr 1835, vi (I 1835 22)] (z_cfg t, I, J) (z_k sc d mt_190 false 148 [vr 1835, vi x1] [vl (zlsh (J 1835 28) 5), vr 1835] Q)) ∧ (¬ (I 1835 22) - (I 1835 24) < (7 : Int) → Go sc d mt_190 159 [vr 1835, vi x1] [] (z_cfg t, I, J) Q))))) : Go sc d mt_190 119 [vr 1835, vi x1] [vi s0] (z_cfg t, I, J) Q := by
  obtain ⟨ts, te, tt, b1, b2, b3, b4, b5, b6⟩ := t
  · exact z_sound (f := false) (cuts := [0, 37, 50, 108, 159, 187, 237, 323, 328, 331]) 300 119 [vr 1835, vi x1] [vi s0] (z_tab (ts, te, tt, b1, b2, b3, b4, b5, b6) ++ t_l (ts, te, tt, b1, b2, b3, b4, b5, b6), t_s (ts, te, tt, b1, b2, b3, b4, b5, b6), I, J) (show (inR s0) ∧ ((s0 = 0 → Go sc d mt_190 331 [vr 1835, vi x1] [] (z_cfg (ts, te, tt, b1, b2, b3, b4, b5, b6), z_u I 1835 23 1, J) Q) ∧ (¬ s0 = 0 → (inR ((I 1835 22) - (I 1835 24))) ∧ (inR 7) ∧ (((I 1835 22) - (I 1835 24) < (7 : Int) → Cl sc d 191 [vr 1835, vi (I 1835 22)] (z_cfg (ts, te, tt, b1, b2, b3, b4, b5, b6), I, J) (z_k sc d mt_190 false 148 [vr 1835, vi x1] [vl (zlsh (J 1835 28) 5), vr 1835] Q)) ∧ (¬ (I 1835 22) - (I 1835 24) < (7 : Int) → Go sc d mt_190 159 [vr 1835, vi x1] [] (z_cfg (ts, te, tt, b1, b2, b3, b4, b5, b6), I, J) Q)))) from ⟨h.1, ⟨fun c0 => (h.2.1 c0), fun c0 => ⟨(h.2.2 c0).1, ⟨⟨by decide, by decide⟩, ⟨fun c1 => ((h.2.2 c0).2.1 c1), fun c1 => ((h.2.2 c0).2.2 c1)⟩⟩⟩⟩⟩)
set_option maxRecDepth 8000 in
theorem b190_151 {x1 q1 s0 : Int} (h : (inR (s0 - 96)) ∧ Go sc d mt_190 159 [vr 1835, vi x1] [] (z_cfg t, I, z_u J 1835 28 (zlor q1 (s0 - 96))) Q) : Go sc d mt_190 151 [vr 1835, vi x1] [vi s0, vl q1, vr 1835] (z_cfg t, I, J) Q := by
  obtain ⟨ts, te, tt, b1, b2, b3, b4, b5, b6⟩ := t
  · exact z_sound (f := false) (cuts := [0, 37, 50, 108, 159, 187, 237, 323, 328, 331]) 300 151 [vr 1835, vi x1] [vi s0, vl q1, vr 1835] (z_tab (ts, te, tt, b1, b2, b3, b4, b5, b6) ++ t_l (ts, te, tt, b1, b2, b3, b4, b5, b6), t_s (ts, te, tt, b1, b2, b3, b4, b5, b6), I, J) h
set_option maxRecDepth 8000 in
theorem b190_159 {x1 : Int} (h : Go sc d mt_190 108 [vr 1835, vi x1] [] (z_cfg t, z_u I 1835 22 ((I 1835 22) + 1), J) Q) : Go sc d mt_190 159 [vr 1835, vi x1] [] (z_cfg t, I, J) Q := by
  obtain ⟨ts, te, tt, b1, b2, b3, b4, b5, b6⟩ := t
  · exact z_sound (f := false) (cuts := [0, 37, 50, 108, 159, 187, 237, 323, 328, 331]) 300 159 [vr 1835, vi x1] [] (z_tab (ts, te, tt, b1, b2, b3, b4, b5, b6) ++ t_l (ts, te, tt, b1, b2, b3, b4, b5, b6), t_s (ts, te, tt, b1, b2, b3, b4, b5, b6), I, J) h
set_option maxRecDepth 8000 in
theorem b190_184 {x1 s0 : Int} (h : (inR s0) ∧ ((s0 = 0 → (inR x1) ∧ ((x1 = (59 : Int) → Go sc d mt_190 323 [vr 1835, vi x1] [vr 1835] (z_cfg t, z_u I 1835 22 ((I 1835 22) + 1), J) Q) ∧ (¬ x1 = (59 : Int) → (x1 = (40 : Int) → Go sc d mt_190 323 [vr 1835, vi x1] [vr 1835] (z_cfg t, z_u I 1835 22 ((I 1835 22) + 1), J) Q) ∧ (¬ x1 = (40 : Int) → (x1 = (41 : Int) → Go sc d mt_190 323 [vr 1835, vi x1] [vr 1835] (z_cfg t, z_u I 1835 22 ((I 1835 22) + 1), J) Q) ∧ (¬ x1 = (41 : Int) → (x1 = (43 : Int) → Go sc d mt_190 323 [vr 1835, vi x1] [vr 1835] (z_cfg t, z_u I 1835 22 ((I 1835 22) + 1), J) Q) ∧ (¬ x1 = (43 : Int) → (x1 = (45 : Int) → Go sc d mt_190 323 [vr 1835, vi x1] [vr 1835] (z_cfg t, z_u I 1835 22 ((I 1835 22) + 1), J) Q) ∧ (¬ x1 = (45 : Int) → (x1 = (42 : Int) → Go sc d mt_190 323 [vr 1835, vi x1] [vr 1835] (z_cfg t, z_u I 1835 22 ((I 1835 22) + 1), J) Q) ∧ (¬ x1 = (42 : Int) → (x1 = (47 : Int) → Go sc d mt_190 323 [vr 1835, vi x1] [vr 1835] (z_cfg t, z_u I 1835 22 ((I 1835 22) + 1), J) Q) ∧ (¬ x1 = (47 : Int) → (x1 = (60 : Int) → Go sc d mt_190 323 [vr 1835, vi x1] [vr 1835] (z_cfg t, z_u I 1835 22 ((I 1835 22) + 1), J) Q) ∧ (¬ x1 = (60 : Int) → (x1 = (61 : Int) → Go sc d mt_190 323 [vr 1835, vi x1] [vr 1835] (z_cfg t, z_u I 1835 22 ((I 1835 22) + 1), J) Q) ∧ (¬ x1 = (61 : Int) → Go sc d mt_190 328 [vr 1835, vi x1] [vi 4, vr 1835] (z_cfg t, z_u I 1835 22 ((I 1835 22) + 1), J) Q))))))))))) ∧ (¬ s0 = 0 → Go sc d mt_190 187 [vr 1835, vi x1] [] (z_cfg t, I, J) Q))) : Go sc d mt_190 184 [vr 1835, vi x1] [vi s0] (z_cfg t, I, J) Q := by
  obtain ⟨ts, te, tt, b1, b2, b3, b4, b5, b6⟩ := t
  · exact z_sound (f := false) (cuts := [0, 37, 50, 108, 159, 187, 237, 323, 328, 331]) 300 184 [vr 1835, vi x1] [vi s0] (z_tab (ts, te, tt, b1, b2, b3, b4, b5, b6) ++ t_l (ts, te, tt, b1, b2, b3, b4, b5, b6), t_s (ts, te, tt, b1, b2, b3, b4, b5, b6), I, J) (show (inR s0) ∧ ((s0 = 0 → (inR x1) ∧ (inR 59) ∧ ((x1 = (59 : Int) → Go sc d mt_190 323 [vr 1835, vi x1] [vr 1835] (z_cfg (ts, te, tt, b1, b2, b3, b4, b5, b6), z_u I 1835 22 ((I 1835 22) + 1), J) Q) ∧ (¬ x1 = (59 : Int) → (inR x1) ∧ (inR 40) ∧ ((x1 = (40 : Int) → Go sc d mt_190 323 [vr 1835, vi x1] [vr 1835] (z_cfg (ts, te, tt, b1, b2, b3, b4, b5, b6), z_u I 1835 22 ((I 1835 22) + 1), J) Q) ∧ (¬ x1 = (40 : Int) → (inR x1) ∧ (inR 41) ∧ ((x1 = (41 : Int) → Go sc d mt_190 323 [vr 1835, vi x1] [vr 1835] (z_cfg (ts, te, tt, b1, b2, b3, b4, b5, b6), z_u I 1835 22 ((I 1835 22) + 1), J) Q) ∧ (¬ x1 = (41 : Int) → (inR x1) ∧ (inR 43) ∧ ((x1 = (43 : Int) → Go sc d mt_190 323 [vr 1835, vi x1] [vr 1835] (z_cfg (ts, te, tt, b1, b2, b3, b4, b5, b6), z_u I 1835 22 ((I 1835 22) + 1), J) Q) ∧ (¬ x1 = (43 : Int) → (inR x1) ∧ (inR 45) ∧ ((x1 = (45 : Int) → Go sc d mt_190 323 [vr 1835, vi x1] [vr 1835] (z_cfg (ts, te, tt, b1, b2, b3, b4, b5, b6), z_u I 1835 22 ((I 1835 22) + 1), J) Q) ∧ (¬ x1 = (45 : Int) → (inR x1) ∧ (inR 42) ∧ ((x1 = (42 : Int) → Go sc d mt_190 323 [vr 1835, vi x1] [vr 1835] (z_cfg (ts, te, tt, b1, b2, b3, b4, b5, b6), z_u I 1835 22 ((I 1835 22) + 1), J) Q) ∧ (¬ x1 = (42 : Int) → (inR x1) ∧ (inR 47) ∧ ((x1 = (47 : Int) → Go sc d mt_190 323 [vr 1835, vi x1] [vr 1835] (z_cfg (ts, te, tt, b1, b2, b3, b4, b5, b6), z_u I 1835 22 ((I 1835 22) + 1), J) Q) ∧ (¬ x1 = (47 : Int) → (inR x1) ∧ (inR 60) ∧ ((x1 = (60 : Int) → Go sc d mt_190 323 [vr 1835, vi x1] [vr 1835] (z_cfg (ts, te, tt, b1, b2, b3, b4, b5, b6), z_u I 1835 22 ((I 1835 22) + 1), J) Q) ∧ (¬ x1 = (60 : Int) → (inR x1) ∧ (inR 61) ∧ ((x1 = (61 : Int) → Go sc d mt_190 323 [vr 1835, vi x1] [vr 1835] (z_cfg (ts, te, tt, b1, b2, b3, b4, b5, b6), z_u I 1835 22 ((I 1835 22) + 1), J) Q) ∧ (¬ x1 = (61 : Int) → Go sc d mt_190 328 [vr 1835, vi x1] [vi 4, vr 1835] (z_cfg (ts, te, tt, b1, b2, b3, b4, b5, b6), z_u I 1835 22 ((I 1835 22) + 1), J) Q))))))))))))))))))) ∧ (¬ s0 = 0 → Go sc d mt_190 187 [vr 1835, vi x1] [] (z_cfg (ts, te, tt, b1, b2, b3, b4, b5, b6), I, J) Q)) from ⟨h.1, ⟨fun c0 => ⟨(h.2.1 c0).1, ⟨⟨by decide, by decide⟩, ⟨fun c1 => ((h.2.1 c0).2.1 c1), fun c1 => ⟨(h.2.1 c0).1, ⟨⟨by decide, by decide⟩, ⟨fun c2 => (((h.2.1 c0).2.2 c1).1 c2), fun c2 => ⟨(h.2.1 c0).1, ⟨⟨by decide, by decide⟩, ⟨fun c3 => ((((h.2.1 c0).2.2 c1).2 c2).1 c3), fun c3 => ⟨(h.2.1 c0).1, ⟨⟨by decide, by decide⟩, ⟨fun c4 => (((((h.2.1 c0).2.2 c1).2 c2).2 c3).1 c4), fun c4 => ⟨(h.2.1 c0).1, ⟨⟨by decide, by decide⟩, ⟨fun c5 => ((((((h.2.1 c0).2.2 c1).2 c2).2 c3).2 c4).1 c5), fun c5 => ⟨(h.2.1 c0).1, ⟨⟨by decide, by decide⟩, ⟨fun c6 => (((((((h.2.1 c0).2.2 c1).2 c2).2 c3).2 c4).2 c5).1 c6), fun c6 => ⟨(h.2.1 c0).1, ⟨⟨by decide, by decide⟩, ⟨fun c7 => ((((((((h.2.1 c0).2.2 c1).2 c2).2 c3).2 c4).2 c5).2 c6).1 c7), fun c7 => ⟨(h.2.1 c0).1, ⟨⟨by decide, by decide⟩, ⟨fun c8 => (((((((((h.2.1 c0).2.2 c1).2 c2).2 c3).2 c4).2 c5).2 c6).2 c7).1 c8), fun c8 => ⟨(h.2.1 c0).1, ⟨⟨by decide, by decide⟩, ⟨fun c9 => ((((((((((h.2.1 c0).2.2 c1).2 c2).2 c3).2 c4).2 c5).2 c6).2 c7).2 c8).1 c9), fun c9 => ((((((((((h.2.1 c0).2.2 c1).2 c2).2 c3).2 c4).2 c5).2 c6).2 c7).2 c8).2 c9)⟩⟩⟩⟩⟩⟩⟩⟩⟩⟩⟩⟩⟩⟩⟩⟩⟩⟩⟩⟩⟩⟩⟩⟩⟩⟩⟩, fun c0 => (h.2.2 c0)⟩⟩)
set_option maxRecDepth 8000 in
theorem b190_187 {x1 : Int} (h : Cl sc d 191 [vr 1835, vi (I 1835 22)] (z_cfg t, I, J) (z_k sc d mt_190 false 192 [vr 1835, vi x1] [] Q)) : Go sc d mt_190 187 [vr 1835, vi x1] [] (z_cfg t, I, J) Q := by
  obtain ⟨ts, te, tt, b1, b2, b3, b4, b5, b6⟩ := t
  · exact z_sound (f := false) (cuts := [0, 37, 50, 108, 159, 187, 237, 323, 328, 331]) 300 187 [vr 1835, vi x1] [] (z_tab (ts, te, tt, b1, b2, b3, b4, b5, b6) ++ t_l (ts, te, tt, b1, b2, b3, b4, b5, b6), t_s (ts, te, tt, b1, b2, b3, b4, b5, b6), I, J) h
set_option maxRecDepth 8000 in
theorem b190_195 {x1 s0 : Int} (h : Cl sc d 193 [vi s0] (z_cfg t, I, J) (z_k sc d mt_190 false 195 [vr 1835, vi x1] [] Q)) : Go sc d mt_190 195 [vr 1835, vi x1] [vi s0] (z_cfg t, I, J) Q := by
  obtain ⟨ts, te, tt, b1, b2, b3, b4, b5, b6⟩ := t
  · exact z_sound (f := false) (cuts := [0, 37, 50, 108, 159, 187, 237, 323, 328, 331]) 300 195 [vr 1835, vi x1] [vi s0] (z_tab (ts, te, tt, b1, b2, b3, b4, b5, b6) ++ t_l (ts, te, tt, b1, b2, b3, b4, b5, b6), t_s (ts, te, tt, b1, b2, b3, b4, b5, b6), I, J) h
set_option maxRecDepth 8000 in
theorem b190_198 {x1 s0 : Int} (h : (inR s0) ∧ ((s0 = 0 → Go sc d mt_190 331 [vr 1835, vi x1] [] (z_cfg t, z_u I 1835 23 2, J) Q) ∧ (¬ s0 = 0 → (inR ((I 1835 22) - (I 1835 24))) ∧ (((I 1835 22) - (I 1835 24) < (3 : Int) → Cl sc d 191 [vr 1835, vi (I 1835 22)] (z_cfg t, I, J) (z_k sc d mt_190 false 227 [vr 1835, vi x1] [vi (10 * (I 1835 26)), vr 1835] Q)) ∧ (¬ (I 1835 22) - (I 1835 24) < (3 : Int) → Go sc d mt_190 237 [vr 1835, vi x1] [] (z_cfg t, I, J) Q))))) : Go sc d mt_190 198 [vr 1835, vi x1] [vi s0] (z_cfg t, I, J) Q := by
  obtain ⟨ts, te, tt, b1, b2, b3, b4, b5, b6⟩ := t
  · exact z_sound (f := false) (cuts := [0, 37, 50, 108, 159, 187, 237, 323, 328, 331]) 300 198 [vr 1835, vi x1] [vi s0] (z_tab (ts, te, tt, b1, b2, b3, b4, b5, b6) ++ t_l (ts, te, tt, b1, b2, b3, b4, b5, b6), t_s (ts, te, tt, b1, b2, b3, b4, b5, b6), I, J) (show (inR s0) ∧ ((s0 = 0 → Go sc d mt_190 331 [vr 1835, vi x1] [] (z_cfg (ts, te, tt, b1, b2, b3, b4, b5, b6), z_u I 1835 23 2, J) Q) ∧ (¬ s0 = 0 → (inR ((I 1835 22) - (I 1835 24))) ∧ (inR 3) ∧ (((I 1835 22) - (I 1835 24) < (3 : Int) → Cl sc d 191 [vr 1835, vi (I 1835 22)] (z_cfg (ts, te, tt, b1, b2, b3, b4, b5, b6), I, J) (z_k sc d mt_190 false 227 [vr 1835, vi x1] [vi (10 * (I 1835 26)), vr 1835] Q)) ∧ (¬ (I 1835 22) - (I 1835 24) < (3 : Int) → Go sc d mt_190 237 [vr 1835, vi x1] [] (z_cfg (ts, te, tt, b1, b2, b3, b4, b5, b6), I, J) Q)))) from ⟨h.1, ⟨fun c0 => (h.2.1 c0), fun c0 => ⟨(h.2.2 c0).1, ⟨⟨by decide, by decide⟩, ⟨fun c1 => ((h.2.2 c0).2.1 c1), fun c1 => ((h.2.2 c0).2.2 c1)⟩⟩⟩⟩⟩)
set_option maxRecDepth 8000 in
theorem b190_230 {x1 s1 s0 : Int} (h : Go sc d mt_190 237 [vr 1835, vi x1] [] (z_cfg t, z_u I 1835 26 ((s1 + s0) - 48), J) Q) : Go sc d mt_190 230 [vr 1835, vi x1] [vi s0, vi s1, vr 1835] (z_cfg t, I, J) Q := by
  obtain ⟨ts, te, tt, b1, b2, b3, b4, b5, b6⟩ := t
  · exact z_sound (f := false) (cuts := [0, 37, 50, 108, 159, 187, 237, 323, 328, 331]) 300 230 [vr 1835, vi x1] [vi s0, vi s1, vr 1835] (z_tab (ts, te, tt, b1, b2, b3, b4, b5, b6) ++ t_l (ts, te, tt, b1, b2, b3, b4, b5, b6), t_s (ts, te, tt, b1, b2, b3, b4, b5, b6), I, J) h
set_option maxRecDepth 8000 in
theorem b190_237 {x1 : Int} (h : Go sc d mt_190 187 [vr 1835, vi x1] [] (z_cfg t, z_u I 1835 22 ((I 1835 22) + 1), J) Q) : Go sc d mt_190 237 [vr 1835, vi x1] [] (z_cfg t, I, J) Q := by
  obtain ⟨ts, te, tt, b1, b2, b3, b4, b5, b6⟩ := t
  · exact z_sound (f := false) (cuts := [0, 37, 50, 108, 159, 187, 237, 323, 328, 331]) 300 237 [vr 1835, vi x1] [] (z_tab (ts, te, tt, b1, b2, b3, b4, b5, b6) ++ t_l (ts, te, tt, b1, b2, b3, b4, b5, b6), t_s (ts, te, tt, b1, b2, b3, b4, b5, b6), I, J) h
set_option maxRecDepth 8000 in
theorem b190_323 {x1 : Int} (h : Go sc d mt_190 328 [vr 1835, vi x1] [vi 3, vr 1835] (z_cfg t, I, J) Q) : Go sc d mt_190 323 [vr 1835, vi x1] [vr 1835] (z_cfg t, I, J) Q := by
  obtain ⟨ts, te, tt, b1, b2, b3, b4, b5, b6⟩ := t
  · exact z_sound (f := false) (cuts := [0, 37, 50, 108, 159, 187, 237, 323, 328, 331]) 300 323 [vr 1835, vi x1] [vr 1835] (z_tab (ts, te, tt, b1, b2, b3, b4, b5, b6) ++ t_l (ts, te, tt, b1, b2, b3, b4, b5, b6), t_s (ts, te, tt, b1, b2, b3, b4, b5, b6), I, J) h
set_option maxRecDepth 8000 in
theorem b190_328 {x1 s0 : Int} (h : Go sc d mt_190 331 [vr 1835, vi x1] [] (z_cfg t, z_u I 1835 23 s0, J) Q) : Go sc d mt_190 328 [vr 1835, vi x1] [vi s0, vr 1835] (z_cfg t, I, J) Q := by
  obtain ⟨ts, te, tt, b1, b2, b3, b4, b5, b6⟩ := t
  · exact z_sound (f := false) (cuts := [0, 37, 50, 108, 159, 187, 237, 323, 328, 331]) 300 328 [vr 1835, vi x1] [vi s0, vr 1835] (z_tab (ts, te, tt, b1, b2, b3, b4, b5, b6) ++ t_l (ts, te, tt, b1, b2, b3, b4, b5, b6), t_s (ts, te, tt, b1, b2, b3, b4, b5, b6), I, J) h
set_option maxRecDepth 8000 in
theorem b190_331 {x1 : Int} (h : Q (.inl none) (z_cfg t, z_u I 1835 25 ((I 1835 22) - (I 1835 24)), J)) : Go sc d mt_190 331 [vr 1835, vi x1] [] (z_cfg t, I, J) Q := by
  obtain ⟨ts, te, tt, b1, b2, b3, b4, b5, b6⟩ := t
  · exact z_sound (f := false) (cuts := [0, 37, 50, 108, 159, 187, 237, 323, 328, 331]) 300 331 [vr 1835, vi x1] [] (z_tab (ts, te, tt, b1, b2, b3, b4, b5, b6) ++ t_l (ts, te, tt, b1, b2, b3, b4, b5, b6), t_s (ts, te, tt, b1, b2, b3, b4, b5, b6), I, J) h
theorem c190 {w : zW} {K : zR → zW → Prop} (hd : 1 ≤ d) (h : ∀ d', d = d' + 1 → Go sc d' mt_190 0 [vr 1835, vn] [] w K) : Cl sc d 190 [vr 1835] w K := Cl_of rfl hd h
/-! FerryHallModel byteAt (I)I -/
set_option maxRecDepth 8000 in
theorem b191_0 {x1 : Int} (h : (inR x1) ∧ ((inR (I 1835 21)) ∧ ((x1 < I 1835 21 → (0 ≤ x1 ∧ x1 < 700) ∧ Q (.inl (some (vi (I 2196 (x1).toNat)))) (z_cfg t, I, J)) ∧ (¬ x1 < I 1835 21 → Q (.inl (some (vi 0))) (z_cfg t, I, J))))) : Go sc d mt_191 0 [vr 1835, vi x1] [] (z_cfg t, I, J) Q := by
  obtain ⟨ts, te, tt, b1, b2, b3, b4, b5, b6⟩ := t
  · exact z_sound (f := false) (cuts := []) 300 0 [vr 1835, vi x1] [] (z_tab (ts, te, tt, b1, b2, b3, b4, b5, b6) ++ t_l (ts, te, tt, b1, b2, b3, b4, b5, b6), t_s (ts, te, tt, b1, b2, b3, b4, b5, b6), I, J) h
theorem c191 {x1 : Int} {w : zW} {K : zR → zW → Prop} (hd : 1 ≤ d) (h : ∀ d', d = d' + 1 → Go sc d' mt_191 0 [vr 1835, vi x1] [] w K) : Cl sc d 191 [vr 1835, vi x1] w K := Cl_of rfl hd h
/-! FerryHallModel isLetter (I)Z -/
set_option maxRecDepth 8000 in
theorem b192_0 {x0 : Int} (h : (inR x0) ∧ ((x0 < (97 : Int) → Q (.inl (some (vi 0))) (z_cfg t, I, J)) ∧ (¬ x0 < (97 : Int) → ((122 : Int) < x0 → Q (.inl (some (vi 0))) (z_cfg t, I, J)) ∧ (¬ (122 : Int) < x0 → Q (.inl (some (vi 1))) (z_cfg t, I, J))))) : Go sc d mt_192 0 [vi x0] [] (z_cfg t, I, J) Q := by
  obtain ⟨ts, te, tt, b1, b2, b3, b4, b5, b6⟩ := t
  · exact z_sound (f := false) (cuts := []) 300 0 [vi x0] [] (z_tab (ts, te, tt, b1, b2, b3, b4, b5, b6) ++ t_l (ts, te, tt, b1, b2, b3, b4, b5, b6), t_s (ts, te, tt, b1, b2, b3, b4, b5, b6), I, J) (show (inR x0) ∧ (inR 97) ∧ ((x0 < (97 : Int) → ((0 : Int) = 0 ∨ (0 : Int) = 1) ∧ Q (.inl (some (vi 0))) (z_cfg (ts, te, tt, b1, b2, b3, b4, b5, b6), I, J)) ∧ (¬ x0 < (97 : Int) → (inR x0) ∧ (inR 122) ∧ (((122 : Int) < x0 → ((0 : Int) = 0 ∨ (0 : Int) = 1) ∧ Q (.inl (some (vi 0))) (z_cfg (ts, te, tt, b1, b2, b3, b4, b5, b6), I, J)) ∧ (¬ (122 : Int) < x0 → ((1 : Int) = 0 ∨ (1 : Int) = 1) ∧ Q (.inl (some (vi 1))) (z_cfg (ts, te, tt, b1, b2, b3, b4, b5, b6), I, J))))) from ⟨h.1, ⟨⟨by decide, by decide⟩, ⟨fun c0 => ⟨by decide, (h.2.1 c0)⟩, fun c0 => ⟨h.1, ⟨⟨by decide, by decide⟩, ⟨fun c1 => ⟨by decide, ((h.2.2 c0).1 c1)⟩, fun c1 => ⟨by decide, ((h.2.2 c0).2 c1)⟩⟩⟩⟩⟩⟩⟩)
theorem c192 {x0 : Int} {w : zW} {K : zR → zW → Prop} (hd : 1 ≤ d) (h : ∀ d', d = d' + 1 → Go sc d' mt_192 0 [vi x0] [] w K) : Cl sc d 192 [vi x0] w K := Cl_of rfl hd h
/-! FerryHallModel isDigit (I)Z -/
set_option maxRecDepth 8000 in
theorem b193_0 {x0 : Int} (h : (inR x0) ∧ ((x0 < (48 : Int) → Q (.inl (some (vi 0))) (z_cfg t, I, J)) ∧ (¬ x0 < (48 : Int) → ((57 : Int) < x0 → Q (.inl (some (vi 0))) (z_cfg t, I, J)) ∧ (¬ (57 : Int) < x0 → Q (.inl (some (vi 1))) (z_cfg t, I, J))))) : Go sc d mt_193 0 [vi x0] [] (z_cfg t, I, J) Q := by
  obtain ⟨ts, te, tt, b1, b2, b3, b4, b5, b6⟩ := t
  · exact z_sound (f := false) (cuts := []) 300 0 [vi x0] [] (z_tab (ts, te, tt, b1, b2, b3, b4, b5, b6) ++ t_l (ts, te, tt, b1, b2, b3, b4, b5, b6), t_s (ts, te, tt, b1, b2, b3, b4, b5, b6), I, J) (show (inR x0) ∧ (inR 48) ∧ ((x0 < (48 : Int) → ((0 : Int) = 0 ∨ (0 : Int) = 1) ∧ Q (.inl (some (vi 0))) (z_cfg (ts, te, tt, b1, b2, b3, b4, b5, b6), I, J)) ∧ (¬ x0 < (48 : Int) → (inR x0) ∧ (inR 57) ∧ (((57 : Int) < x0 → ((0 : Int) = 0 ∨ (0 : Int) = 1) ∧ Q (.inl (some (vi 0))) (z_cfg (ts, te, tt, b1, b2, b3, b4, b5, b6), I, J)) ∧ (¬ (57 : Int) < x0 → ((1 : Int) = 0 ∨ (1 : Int) = 1) ∧ Q (.inl (some (vi 1))) (z_cfg (ts, te, tt, b1, b2, b3, b4, b5, b6), I, J))))) from ⟨h.1, ⟨⟨by decide, by decide⟩, ⟨fun c0 => ⟨by decide, (h.2.1 c0)⟩, fun c0 => ⟨h.1, ⟨⟨by decide, by decide⟩, ⟨fun c1 => ⟨by decide, ((h.2.2 c0).1 c1)⟩, fun c1 => ⟨by decide, ((h.2.2 c0).2 c1)⟩⟩⟩⟩⟩⟩⟩)
theorem c193 {x0 : Int} {w : zW} {K : zR → zW → Prop} (hd : 1 ≤ d) (h : ∀ d', d = d' + 1 → Go sc d' mt_193 0 [vi x0] [] w K) : Cl sc d 193 [vi x0] w K := Cl_of rfl hd h
/-! FerryHallModel knownWord ()I -/
set_option maxRecDepth 8000 in
theorem b194_0 (h : (inR (I 1835 23)) ∧ ((I 1835 23 = (1 : Int) → (inR (I 1835 25)) ∧ (((6 : Int) < I 1835 25 → Q (.inl (some (vi (-1)))) (z_cfg t, I, J)) ∧ (¬ (6 : Int) < I 1835 25 → Go sc d mt_194 21 [vr 1835, vi 0] [] (z_cfg t, I, J) Q))) ∧ (¬ I 1835 23 = (1 : Int) → Q (.inl (some (vi (-1)))) (z_cfg t, I, J)))) : Go sc d mt_194 0 [vr 1835, vn] [] (z_cfg t, I, J) Q := by
  obtain ⟨ts, te, tt, b1, b2, b3, b4, b5, b6⟩ := t
  · exact z_sound (f := false) (cuts := [21]) 300 0 [vr 1835, vn] [] (z_tab (ts, te, tt, b1, b2, b3, b4, b5, b6) ++ t_l (ts, te, tt, b1, b2, b3, b4, b5, b6), t_s (ts, te, tt, b1, b2, b3, b4, b5, b6), I, J) (show (inR (I 1835 23)) ∧ (inR 1) ∧ ((I 1835 23 = (1 : Int) → (inR (I 1835 25)) ∧ (inR 6) ∧ (((6 : Int) < I 1835 25 → Q (.inl (some (vi (-1)))) (z_cfg (ts, te, tt, b1, b2, b3, b4, b5, b6), I, J)) ∧ (¬ (6 : Int) < I 1835 25 → Go sc d mt_194 21 [vr 1835, vi 0] [] (z_cfg (ts, te, tt, b1, b2, b3, b4, b5, b6), I, J) Q))) ∧ (¬ I 1835 23 = (1 : Int) → Q (.inl (some (vi (-1)))) (z_cfg (ts, te, tt, b1, b2, b3, b4, b5, b6), I, J))) from ⟨h.1, ⟨⟨by decide, by decide⟩, ⟨fun c0 => ⟨(h.2.1 c0).1, ⟨⟨by decide, by decide⟩, ⟨fun c1 => ((h.2.1 c0).2.1 c1), fun c1 => ((h.2.1 c0).2.2 c1)⟩⟩⟩, fun c0 => (h.2.2 c0)⟩⟩⟩)
set_option maxRecDepth 8000 in
theorem b194_21 {x1 : Int} (h : (inR x1) ∧ ((x1 < (21 : Int) → Cl sc d 195 [vi x1] (z_cfg t, I, J) (z_k sc d mt_194 false 28 [vr 1835, vi x1] [] Q)) ∧ (¬ x1 < (21 : Int) → Q (.inl (some (vi (-1)))) (z_cfg t, I, J)))) : Go sc d mt_194 21 [vr 1835, vi x1] [] (z_cfg t, I, J) Q := by
  obtain ⟨ts, te, tt, b1, b2, b3, b4, b5, b6⟩ := t
  · exact z_sound (f := false) (cuts := [21]) 300 21 [vr 1835, vi x1] [] (z_tab (ts, te, tt, b1, b2, b3, b4, b5, b6) ++ t_l (ts, te, tt, b1, b2, b3, b4, b5, b6), t_s (ts, te, tt, b1, b2, b3, b4, b5, b6), I, J) (show (inR x1) ∧ (inR 21) ∧ ((x1 < (21 : Int) → Cl sc d 195 [vi x1] (z_cfg (ts, te, tt, b1, b2, b3, b4, b5, b6), I, J) (z_k sc d mt_194 false 28 [vr 1835, vi x1] [] Q)) ∧ (¬ x1 < (21 : Int) → Q (.inl (some (vi (-1)))) (z_cfg (ts, te, tt, b1, b2, b3, b4, b5, b6), I, J))) from ⟨h.1, ⟨⟨by decide, by decide⟩, ⟨fun c0 => (h.2.1 c0), fun c0 => (h.2.2 c0)⟩⟩⟩)
set_option maxRecDepth 8000 in
theorem b194_31 {x1 q0 : Int} (h : (inL q0 ∧ inL (J 1835 28)) ∧ ((zlc q0 (J 1835 28) = 0 → Q (.inl (some (vi x1))) (z_cfg t, I, J)) ∧ (¬ zlc q0 (J 1835 28) = 0 → Go sc d mt_194 21 [vr 1835, vi (x1 + 1)] [] (z_cfg t, I, J) Q))) : Go sc d mt_194 31 [vr 1835, vi x1] [vl q0] (z_cfg t, I, J) Q := by
  obtain ⟨ts, te, tt, b1, b2, b3, b4, b5, b6⟩ := t
  · exact z_sound (f := false) (cuts := [21]) 300 31 [vr 1835, vi x1] [vl q0] (z_tab (ts, te, tt, b1, b2, b3, b4, b5, b6) ++ t_l (ts, te, tt, b1, b2, b3, b4, b5, b6), t_s (ts, te, tt, b1, b2, b3, b4, b5, b6), I, J) (show (inL q0 ∧ inL (J 1835 28)) ∧ (inR (zlc q0 (J 1835 28))) ∧ ((zlc q0 (J 1835 28) = 0 → Q (.inl (some (vi x1))) (z_cfg (ts, te, tt, b1, b2, b3, b4, b5, b6), I, J)) ∧ (¬ zlc q0 (J 1835 28) = 0 → Go sc d mt_194 21 [vr 1835, vi (x1 + 1)] [] (z_cfg (ts, te, tt, b1, b2, b3, b4, b5, b6), I, J) Q)) from ⟨h.1, ⟨zlc_in _ _, ⟨fun c0 => (h.2.1 c0), fun c0 => (h.2.2 c0)⟩⟩⟩)
theorem c194 {w : zW} {K : zR → zW → Prop} (hd : 1 ≤ d) (h : ∀ d', d = d' + 1 → Go sc d' mt_194 0 [vr 1835, vn] [] w K) : Cl sc d 194 [vr 1835] w K := Cl_of rfl hd h
/-! FerryHallModel letters (I)J -/
set_option maxRecDepth 8000 in
theorem b195_0 {x0 : Int} (h : (inR x0) ∧ (((x0 = 0 → Cl sc d 196 [vi 115, vi 104, vi 111, vi 114, vi 101, vi 115] (z_cfg t, I, J) (z_k sc d mt_195 false 108 [vi x0] [] Q)) ∧ (x0 = 1 → Cl sc d 196 [vi 116, vi 104, vi 105, vi 110, vi 103, vi 0] (z_cfg t, I, J) (z_k sc d mt_195 false 123 [vi x0] [] Q)) ∧ (x0 = 2 → Cl sc d 196 [vi 98, vi 111, vi 97, vi 116, vi 0, vi 0] (z_cfg t, I, J) (z_k sc d mt_195 false 137 [vi x0] [] Q)) ∧ (x0 = 3 → Cl sc d 196 [vi 119, vi 97, vi 116, vi 101, vi 114, vi 0] (z_cfg t, I, J) (z_k sc d mt_195 false 152 [vi x0] [] Q)) ∧ (x0 = 4 → Cl sc d 196 [vi 119, vi 97, vi 121, vi 0, vi 0, vi 0] (z_cfg t, I, J) (z_k sc d mt_195 false 165 [vi x0] [] Q)) ∧ (x0 = 5 → Cl sc d 196 [vi 108, vi 97, vi 109, vi 112, vi 0, vi 0] (z_cfg t, I, J) (z_k sc d mt_195 false 179 [vi x0] [] Q)) ∧ (x0 = 6 → Cl sc d 196 [vi 110, vi 101, vi 118, vi 101, vi 114, vi 0] (z_cfg t, I, J) (z_k sc d mt_195 false 194 [vi x0] [] Q)) ∧ (x0 = 7 → Cl sc d 196 [vi 119, vi 101, vi 105, vi 103, vi 104, vi 116] (z_cfg t, I, J) (z_k sc d mt_195 false 210 [vi x0] [] Q)) ∧ (x0 = 8 → Cl sc d 196 [vi 114, vi 111, vi 119, vi 115, vi 0, vi 0] (z_cfg t, I, J) (z_k sc d mt_195 false 224 [vi x0] [] Q)) ∧ (x0 = 9 → Cl sc d 196 [vi 104, vi 111, vi 108, vi 100, vi 115, vi 0] (z_cfg t, I, J) (z_k sc d mt_195 false 239 [vi x0] [] Q)) ∧ (x0 = 10 → Cl sc d 196 [vi 108, vi 111, vi 97, vi 100, vi 0, vi 0] (z_cfg t, I, J) (z_k sc d mt_195 false 253 [vi x0] [] Q)) ∧ (x0 = 11 → Cl sc d 196 [vi 97, vi 116, vi 0, vi 0, vi 0, vi 0] (z_cfg t, I, J) (z_k sc d mt_195 false 265 [vi x0] [] Q)) ∧ (x0 = 12 → Cl sc d 196 [vi 97, vi 115, vi 104, vi 111, vi 114, vi 101] (z_cfg t, I, J) (z_k sc d mt_195 false 281 [vi x0] [] Q)) ∧ (x0 = 13 → Cl sc d 196 [vi 97, vi 98, vi 111, vi 97, vi 114, vi 100] (z_cfg t, I, J) (z_k sc d mt_195 false 297 [vi x0] [] Q)) ∧ (x0 = 14 → Cl sc d 196 [vi 97, vi 110, vi 100, vi 0, vi 0, vi 0] (z_cfg t, I, J) (z_k sc d mt_195 false 310 [vi x0] [] Q)) ∧ (x0 = 15 → Cl sc d 196 [vi 111, vi 114, vi 0, vi 0, vi 0, vi 0] (z_cfg t, I, J) (z_k sc d mt_195 false 322 [vi x0] [] Q)) ∧ (x0 = 16 → Cl sc d 196 [vi 110, vi 111, vi 116, vi 0, vi 0, vi 0] (z_cfg t, I, J) (z_k sc d mt_195 false 335 [vi x0] [] Q)) ∧ (x0 = 17 → Cl sc d 196 [vi 109, vi 97, vi 110, vi 121, vi 0, vi 0] (z_cfg t, I, J) (z_k sc d mt_195 false 349 [vi x0] [] Q)) ∧ (x0 = 18 → Cl sc d 196 [vi 114, vi 111, vi 119, vi 101, vi 114, vi 115] (z_cfg t, I, J) (z_k sc d mt_195 false 365 [vi x0] [] Q)) ∧ (x0 = 19 → Cl sc d 196 [vi 98, vi 111, vi 97, vi 116, vi 115, vi 0] (z_cfg t, I, J) (z_k sc d mt_195 false 380 [vi x0] [] Q)) ∧ True) ∧ (x0 < 0 ∨ 19 < x0 → Cl sc d 196 [vi 115, vi 104, vi 111, vi 114, vi 101, vi 0] (z_cfg t, I, J) (z_k sc d mt_195 false 395 [vi x0] [] Q)))) : Go sc d mt_195 0 [vi x0] [] (z_cfg t, I, J) Q := by
  obtain ⟨ts, te, tt, b1, b2, b3, b4, b5, b6⟩ := t
  · exact z_sound (f := false) (cuts := []) 300 0 [vi x0] [] (z_tab (ts, te, tt, b1, b2, b3, b4, b5, b6) ++ t_l (ts, te, tt, b1, b2, b3, b4, b5, b6), t_s (ts, te, tt, b1, b2, b3, b4, b5, b6), I, J) h
set_option maxRecDepth 8000 in
theorem b195_111 {x0 q0 : Int} (h : Q (.inl (some (vl q0))) (z_cfg t, I, J)) : Go sc d mt_195 111 [vi x0] [vl q0] (z_cfg t, I, J) Q := by
  obtain ⟨ts, te, tt, b1, b2, b3, b4, b5, b6⟩ := t
  · exact z_sound (f := false) (cuts := []) 300 111 [vi x0] [vl q0] (z_tab (ts, te, tt, b1, b2, b3, b4, b5, b6) ++ t_l (ts, te, tt, b1, b2, b3, b4, b5, b6), t_s (ts, te, tt, b1, b2, b3, b4, b5, b6), I, J) h
set_option maxRecDepth 8000 in
theorem b195_126 {x0 q0 : Int} (h : Q (.inl (some (vl q0))) (z_cfg t, I, J)) : Go sc d mt_195 126 [vi x0] [vl q0] (z_cfg t, I, J) Q := by
  obtain ⟨ts, te, tt, b1, b2, b3, b4, b5, b6⟩ := t
  · exact z_sound (f := false) (cuts := []) 300 126 [vi x0] [vl q0] (z_tab (ts, te, tt, b1, b2, b3, b4, b5, b6) ++ t_l (ts, te, tt, b1, b2, b3, b4, b5, b6), t_s (ts, te, tt, b1, b2, b3, b4, b5, b6), I, J) h
set_option maxRecDepth 8000 in
theorem b195_140 {x0 q0 : Int} (h : Q (.inl (some (vl q0))) (z_cfg t, I, J)) : Go sc d mt_195 140 [vi x0] [vl q0] (z_cfg t, I, J) Q := by
  obtain ⟨ts, te, tt, b1, b2, b3, b4, b5, b6⟩ := t
  · exact z_sound (f := false) (cuts := []) 300 140 [vi x0] [vl q0] (z_tab (ts, te, tt, b1, b2, b3, b4, b5, b6) ++ t_l (ts, te, tt, b1, b2, b3, b4, b5, b6), t_s (ts, te, tt, b1, b2, b3, b4, b5, b6), I, J) h
set_option maxRecDepth 8000 in
theorem b195_155 {x0 q0 : Int} (h : Q (.inl (some (vl q0))) (z_cfg t, I, J)) : Go sc d mt_195 155 [vi x0] [vl q0] (z_cfg t, I, J) Q := by
  obtain ⟨ts, te, tt, b1, b2, b3, b4, b5, b6⟩ := t
  · exact z_sound (f := false) (cuts := []) 300 155 [vi x0] [vl q0] (z_tab (ts, te, tt, b1, b2, b3, b4, b5, b6) ++ t_l (ts, te, tt, b1, b2, b3, b4, b5, b6), t_s (ts, te, tt, b1, b2, b3, b4, b5, b6), I, J) h
set_option maxRecDepth 8000 in
theorem b195_168 {x0 q0 : Int} (h : Q (.inl (some (vl q0))) (z_cfg t, I, J)) : Go sc d mt_195 168 [vi x0] [vl q0] (z_cfg t, I, J) Q := by
  obtain ⟨ts, te, tt, b1, b2, b3, b4, b5, b6⟩ := t
  · exact z_sound (f := false) (cuts := []) 300 168 [vi x0] [vl q0] (z_tab (ts, te, tt, b1, b2, b3, b4, b5, b6) ++ t_l (ts, te, tt, b1, b2, b3, b4, b5, b6), t_s (ts, te, tt, b1, b2, b3, b4, b5, b6), I, J) h
set_option maxRecDepth 8000 in
theorem b195_182 {x0 q0 : Int} (h : Q (.inl (some (vl q0))) (z_cfg t, I, J)) : Go sc d mt_195 182 [vi x0] [vl q0] (z_cfg t, I, J) Q := by
  obtain ⟨ts, te, tt, b1, b2, b3, b4, b5, b6⟩ := t
  · exact z_sound (f := false) (cuts := []) 300 182 [vi x0] [vl q0] (z_tab (ts, te, tt, b1, b2, b3, b4, b5, b6) ++ t_l (ts, te, tt, b1, b2, b3, b4, b5, b6), t_s (ts, te, tt, b1, b2, b3, b4, b5, b6), I, J) h
set_option maxRecDepth 8000 in
theorem b195_197 {x0 q0 : Int} (h : Q (.inl (some (vl q0))) (z_cfg t, I, J)) : Go sc d mt_195 197 [vi x0] [vl q0] (z_cfg t, I, J) Q := by
  obtain ⟨ts, te, tt, b1, b2, b3, b4, b5, b6⟩ := t
  · exact z_sound (f := false) (cuts := []) 300 197 [vi x0] [vl q0] (z_tab (ts, te, tt, b1, b2, b3, b4, b5, b6) ++ t_l (ts, te, tt, b1, b2, b3, b4, b5, b6), t_s (ts, te, tt, b1, b2, b3, b4, b5, b6), I, J) h
set_option maxRecDepth 8000 in
theorem b195_213 {x0 q0 : Int} (h : Q (.inl (some (vl q0))) (z_cfg t, I, J)) : Go sc d mt_195 213 [vi x0] [vl q0] (z_cfg t, I, J) Q := by
  obtain ⟨ts, te, tt, b1, b2, b3, b4, b5, b6⟩ := t
  · exact z_sound (f := false) (cuts := []) 300 213 [vi x0] [vl q0] (z_tab (ts, te, tt, b1, b2, b3, b4, b5, b6) ++ t_l (ts, te, tt, b1, b2, b3, b4, b5, b6), t_s (ts, te, tt, b1, b2, b3, b4, b5, b6), I, J) h
set_option maxRecDepth 8000 in
theorem b195_227 {x0 q0 : Int} (h : Q (.inl (some (vl q0))) (z_cfg t, I, J)) : Go sc d mt_195 227 [vi x0] [vl q0] (z_cfg t, I, J) Q := by
  obtain ⟨ts, te, tt, b1, b2, b3, b4, b5, b6⟩ := t
  · exact z_sound (f := false) (cuts := []) 300 227 [vi x0] [vl q0] (z_tab (ts, te, tt, b1, b2, b3, b4, b5, b6) ++ t_l (ts, te, tt, b1, b2, b3, b4, b5, b6), t_s (ts, te, tt, b1, b2, b3, b4, b5, b6), I, J) h
set_option maxRecDepth 8000 in
theorem b195_242 {x0 q0 : Int} (h : Q (.inl (some (vl q0))) (z_cfg t, I, J)) : Go sc d mt_195 242 [vi x0] [vl q0] (z_cfg t, I, J) Q := by
  obtain ⟨ts, te, tt, b1, b2, b3, b4, b5, b6⟩ := t
  · exact z_sound (f := false) (cuts := []) 300 242 [vi x0] [vl q0] (z_tab (ts, te, tt, b1, b2, b3, b4, b5, b6) ++ t_l (ts, te, tt, b1, b2, b3, b4, b5, b6), t_s (ts, te, tt, b1, b2, b3, b4, b5, b6), I, J) h
set_option maxRecDepth 8000 in
theorem b195_256 {x0 q0 : Int} (h : Q (.inl (some (vl q0))) (z_cfg t, I, J)) : Go sc d mt_195 256 [vi x0] [vl q0] (z_cfg t, I, J) Q := by
  obtain ⟨ts, te, tt, b1, b2, b3, b4, b5, b6⟩ := t
  · exact z_sound (f := false) (cuts := []) 300 256 [vi x0] [vl q0] (z_tab (ts, te, tt, b1, b2, b3, b4, b5, b6) ++ t_l (ts, te, tt, b1, b2, b3, b4, b5, b6), t_s (ts, te, tt, b1, b2, b3, b4, b5, b6), I, J) h
set_option maxRecDepth 8000 in
theorem b195_268 {x0 q0 : Int} (h : Q (.inl (some (vl q0))) (z_cfg t, I, J)) : Go sc d mt_195 268 [vi x0] [vl q0] (z_cfg t, I, J) Q := by
  obtain ⟨ts, te, tt, b1, b2, b3, b4, b5, b6⟩ := t
  · exact z_sound (f := false) (cuts := []) 300 268 [vi x0] [vl q0] (z_tab (ts, te, tt, b1, b2, b3, b4, b5, b6) ++ t_l (ts, te, tt, b1, b2, b3, b4, b5, b6), t_s (ts, te, tt, b1, b2, b3, b4, b5, b6), I, J) h
set_option maxRecDepth 8000 in
theorem b195_284 {x0 q0 : Int} (h : Q (.inl (some (vl q0))) (z_cfg t, I, J)) : Go sc d mt_195 284 [vi x0] [vl q0] (z_cfg t, I, J) Q := by
  obtain ⟨ts, te, tt, b1, b2, b3, b4, b5, b6⟩ := t
  · exact z_sound (f := false) (cuts := []) 300 284 [vi x0] [vl q0] (z_tab (ts, te, tt, b1, b2, b3, b4, b5, b6) ++ t_l (ts, te, tt, b1, b2, b3, b4, b5, b6), t_s (ts, te, tt, b1, b2, b3, b4, b5, b6), I, J) h
set_option maxRecDepth 8000 in
theorem b195_300 {x0 q0 : Int} (h : Q (.inl (some (vl q0))) (z_cfg t, I, J)) : Go sc d mt_195 300 [vi x0] [vl q0] (z_cfg t, I, J) Q := by
  obtain ⟨ts, te, tt, b1, b2, b3, b4, b5, b6⟩ := t
  · exact z_sound (f := false) (cuts := []) 300 300 [vi x0] [vl q0] (z_tab (ts, te, tt, b1, b2, b3, b4, b5, b6) ++ t_l (ts, te, tt, b1, b2, b3, b4, b5, b6), t_s (ts, te, tt, b1, b2, b3, b4, b5, b6), I, J) h
set_option maxRecDepth 8000 in
theorem b195_313 {x0 q0 : Int} (h : Q (.inl (some (vl q0))) (z_cfg t, I, J)) : Go sc d mt_195 313 [vi x0] [vl q0] (z_cfg t, I, J) Q := by
  obtain ⟨ts, te, tt, b1, b2, b3, b4, b5, b6⟩ := t
  · exact z_sound (f := false) (cuts := []) 300 313 [vi x0] [vl q0] (z_tab (ts, te, tt, b1, b2, b3, b4, b5, b6) ++ t_l (ts, te, tt, b1, b2, b3, b4, b5, b6), t_s (ts, te, tt, b1, b2, b3, b4, b5, b6), I, J) h
set_option maxRecDepth 8000 in
theorem b195_325 {x0 q0 : Int} (h : Q (.inl (some (vl q0))) (z_cfg t, I, J)) : Go sc d mt_195 325 [vi x0] [vl q0] (z_cfg t, I, J) Q := by
  obtain ⟨ts, te, tt, b1, b2, b3, b4, b5, b6⟩ := t
  · exact z_sound (f := false) (cuts := []) 300 325 [vi x0] [vl q0] (z_tab (ts, te, tt, b1, b2, b3, b4, b5, b6) ++ t_l (ts, te, tt, b1, b2, b3, b4, b5, b6), t_s (ts, te, tt, b1, b2, b3, b4, b5, b6), I, J) h
set_option maxRecDepth 8000 in
theorem b195_338 {x0 q0 : Int} (h : Q (.inl (some (vl q0))) (z_cfg t, I, J)) : Go sc d mt_195 338 [vi x0] [vl q0] (z_cfg t, I, J) Q := by
  obtain ⟨ts, te, tt, b1, b2, b3, b4, b5, b6⟩ := t
  · exact z_sound (f := false) (cuts := []) 300 338 [vi x0] [vl q0] (z_tab (ts, te, tt, b1, b2, b3, b4, b5, b6) ++ t_l (ts, te, tt, b1, b2, b3, b4, b5, b6), t_s (ts, te, tt, b1, b2, b3, b4, b5, b6), I, J) h
set_option maxRecDepth 8000 in
theorem b195_352 {x0 q0 : Int} (h : Q (.inl (some (vl q0))) (z_cfg t, I, J)) : Go sc d mt_195 352 [vi x0] [vl q0] (z_cfg t, I, J) Q := by
  obtain ⟨ts, te, tt, b1, b2, b3, b4, b5, b6⟩ := t
  · exact z_sound (f := false) (cuts := []) 300 352 [vi x0] [vl q0] (z_tab (ts, te, tt, b1, b2, b3, b4, b5, b6) ++ t_l (ts, te, tt, b1, b2, b3, b4, b5, b6), t_s (ts, te, tt, b1, b2, b3, b4, b5, b6), I, J) h
set_option maxRecDepth 8000 in
theorem b195_368 {x0 q0 : Int} (h : Q (.inl (some (vl q0))) (z_cfg t, I, J)) : Go sc d mt_195 368 [vi x0] [vl q0] (z_cfg t, I, J) Q := by
  obtain ⟨ts, te, tt, b1, b2, b3, b4, b5, b6⟩ := t
  · exact z_sound (f := false) (cuts := []) 300 368 [vi x0] [vl q0] (z_tab (ts, te, tt, b1, b2, b3, b4, b5, b6) ++ t_l (ts, te, tt, b1, b2, b3, b4, b5, b6), t_s (ts, te, tt, b1, b2, b3, b4, b5, b6), I, J) h
set_option maxRecDepth 8000 in
theorem b195_383 {x0 q0 : Int} (h : Q (.inl (some (vl q0))) (z_cfg t, I, J)) : Go sc d mt_195 383 [vi x0] [vl q0] (z_cfg t, I, J) Q := by
  obtain ⟨ts, te, tt, b1, b2, b3, b4, b5, b6⟩ := t
  · exact z_sound (f := false) (cuts := []) 300 383 [vi x0] [vl q0] (z_tab (ts, te, tt, b1, b2, b3, b4, b5, b6) ++ t_l (ts, te, tt, b1, b2, b3, b4, b5, b6), t_s (ts, te, tt, b1, b2, b3, b4, b5, b6), I, J) h
set_option maxRecDepth 8000 in
theorem b195_398 {x0 q0 : Int} (h : Q (.inl (some (vl q0))) (z_cfg t, I, J)) : Go sc d mt_195 398 [vi x0] [vl q0] (z_cfg t, I, J) Q := by
  obtain ⟨ts, te, tt, b1, b2, b3, b4, b5, b6⟩ := t
  · exact z_sound (f := false) (cuts := []) 300 398 [vi x0] [vl q0] (z_tab (ts, te, tt, b1, b2, b3, b4, b5, b6) ++ t_l (ts, te, tt, b1, b2, b3, b4, b5, b6), t_s (ts, te, tt, b1, b2, b3, b4, b5, b6), I, J) h
theorem c195 {x0 : Int} {w : zW} {K : zR → zW → Prop} (hd : 1 ≤ d) (h : ∀ d', d = d' + 1 → Go sc d' mt_195 0 [vi x0] [] w K) : Cl sc d 195 [vi x0] w K := Cl_of rfl hd h
/-! FerryHallModel spelled (IIIIII)J -/
set_option maxRecDepth 8000 in
theorem b196_0 {x0 x1 x2 x3 x4 x5 : Int} (h : (inR (x0 - 96)) ∧ ((inR x1) ∧ ((x1 = 0 → Go sc d mt_196 23 [vi x0, vi x1, vi x2, vi x3, vi x4, vi x5, vl (x0 - 96), vn] [] (z_cfg t, I, J) Q) ∧ (¬ x1 = 0 → (inR (x1 - 96)) ∧ Go sc d mt_196 23 [vi x0, vi x1, vi x2, vi x3, vi x4, vi x5, vl (zlor (zlsh (x0 - 96) 5) (x1 - 96)), vn] [] (z_cfg t, I, J) Q)))) : Go sc d mt_196 0 [vi x0, vi x1, vi x2, vi x3, vi x4, vi x5, vn, vn] [] (z_cfg t, I, J) Q := by
  obtain ⟨ts, te, tt, b1, b2, b3, b4, b5, b6⟩ := t
  · exact z_sound (f := false) (cuts := [23, 39, 55, 73]) 300 0 [vi x0, vi x1, vi x2, vi x3, vi x4, vi x5, vn, vn] [] (z_tab (ts, te, tt, b1, b2, b3, b4, b5, b6) ++ t_l (ts, te, tt, b1, b2, b3, b4, b5, b6), t_s (ts, te, tt, b1, b2, b3, b4, b5, b6), I, J) h
set_option maxRecDepth 8000 in
theorem b196_23 {x0 x1 x2 x3 x4 x5 j6 : Int} (h : (inR x2) ∧ ((x2 = 0 → Go sc d mt_196 39 [vi x0, vi x1, vi x2, vi x3, vi x4, vi x5, vl j6, vn] [] (z_cfg t, I, J) Q) ∧ (¬ x2 = 0 → (inR (x2 - 96)) ∧ Go sc d mt_196 39 [vi x0, vi x1, vi x2, vi x3, vi x4, vi x5, vl (zlor (zlsh j6 5) (x2 - 96)), vn] [] (z_cfg t, I, J) Q))) : Go sc d mt_196 23 [vi x0, vi x1, vi x2, vi x3, vi x4, vi x5, vl j6, vn] [] (z_cfg t, I, J) Q := by
  obtain ⟨ts, te, tt, b1, b2, b3, b4, b5, b6⟩ := t
  · exact z_sound (f := false) (cuts := [23, 39, 55, 73]) 300 23 [vi x0, vi x1, vi x2, vi x3, vi x4, vi x5, vl j6, vn] [] (z_tab (ts, te, tt, b1, b2, b3, b4, b5, b6) ++ t_l (ts, te, tt, b1, b2, b3, b4, b5, b6), t_s (ts, te, tt, b1, b2, b3, b4, b5, b6), I, J) h
set_option maxRecDepth 8000 in
theorem b196_39 {x0 x1 x2 x3 x4 x5 j6 : Int} (h : (inR x3) ∧ ((x3 = 0 → Go sc d mt_196 55 [vi x0, vi x1, vi x2, vi x3, vi x4, vi x5, vl j6, vn] [] (z_cfg t, I, J) Q) ∧ (¬ x3 = 0 → (inR (x3 - 96)) ∧ Go sc d mt_196 55 [vi x0, vi x1, vi x2, vi x3, vi x4, vi x5, vl (zlor (zlsh j6 5) (x3 - 96)), vn] [] (z_cfg t, I, J) Q))) : Go sc d mt_196 39 [vi x0, vi x1, vi x2, vi x3, vi x4, vi x5, vl j6, vn] [] (z_cfg t, I, J) Q := by
  obtain ⟨ts, te, tt, b1, b2, b3, b4, b5, b6⟩ := t
  · exact z_sound (f := false) (cuts := [23, 39, 55, 73]) 300 39 [vi x0, vi x1, vi x2, vi x3, vi x4, vi x5, vl j6, vn] [] (z_tab (ts, te, tt, b1, b2, b3, b4, b5, b6) ++ t_l (ts, te, tt, b1, b2, b3, b4, b5, b6), t_s (ts, te, tt, b1, b2, b3, b4, b5, b6), I, J) h
set_option maxRecDepth 8000 in
theorem b196_55 {x0 x1 x2 x3 x4 x5 j6 : Int} (h : (inR x4) ∧ ((x4 = 0 → Go sc d mt_196 73 [vi x0, vi x1, vi x2, vi x3, vi x4, vi x5, vl j6, vn] [] (z_cfg t, I, J) Q) ∧ (¬ x4 = 0 → (inR (x4 - 96)) ∧ Go sc d mt_196 73 [vi x0, vi x1, vi x2, vi x3, vi x4, vi x5, vl (zlor (zlsh j6 5) (x4 - 96)), vn] [] (z_cfg t, I, J) Q))) : Go sc d mt_196 55 [vi x0, vi x1, vi x2, vi x3, vi x4, vi x5, vl j6, vn] [] (z_cfg t, I, J) Q := by
  obtain ⟨ts, te, tt, b1, b2, b3, b4, b5, b6⟩ := t
  · exact z_sound (f := false) (cuts := [23, 39, 55, 73]) 300 55 [vi x0, vi x1, vi x2, vi x3, vi x4, vi x5, vl j6, vn] [] (z_tab (ts, te, tt, b1, b2, b3, b4, b5, b6) ++ t_l (ts, te, tt, b1, b2, b3, b4, b5, b6), t_s (ts, te, tt, b1, b2, b3, b4, b5, b6), I, J) h
set_option maxRecDepth 8000 in
theorem b196_73 {x0 x1 x2 x3 x4 x5 j6 : Int} (h : (inR x5) ∧ ((x5 = 0 → Q (.inl (some (vl j6))) (z_cfg t, I, J)) ∧ (¬ x5 = 0 → (inR (x5 - 96)) ∧ Q (.inl (some (vl (zlor (zlsh j6 5) (x5 - 96))))) (z_cfg t, I, J)))) : Go sc d mt_196 73 [vi x0, vi x1, vi x2, vi x3, vi x4, vi x5, vl j6, vn] [] (z_cfg t, I, J) Q := by
  obtain ⟨ts, te, tt, b1, b2, b3, b4, b5, b6⟩ := t
  · exact z_sound (f := false) (cuts := [23, 39, 55, 73]) 300 73 [vi x0, vi x1, vi x2, vi x3, vi x4, vi x5, vl j6, vn] [] (z_tab (ts, te, tt, b1, b2, b3, b4, b5, b6) ++ t_l (ts, te, tt, b1, b2, b3, b4, b5, b6), t_s (ts, te, tt, b1, b2, b3, b4, b5, b6), I, J) h
theorem c196 {x0 x1 x2 x3 x4 x5 : Int} {w : zW} {K : zR → zW → Prop} (hd : 1 ≤ d) (h : ∀ d', d = d' + 1 → Go sc d' mt_196 0 [vi x0, vi x1, vi x2, vi x3, vi x4, vi x5, vn, vn] [] w K) : Cl sc d 196 [vi x0, vi x1, vi x2, vi x3, vi x4, vi x5] w K := Cl_of rfl hd h
/-! FerryHallModel number (II)I -/
set_option maxRecDepth 8000 in
theorem b197_0 {x1 x2 : Int} (h : Cl sc d 198 [vr 1835] (z_cfg t, I, J) (z_k sc d mt_197 false 1 [vr 1835, vi x1, vi x2, vn] [] Q)) : Go sc d mt_197 0 [vr 1835, vi x1, vi x2, vn] [] (z_cfg t, I, J) Q := by
  obtain ⟨ts, te, tt, b1, b2, b3, b4, b5, b6⟩ := t
  · exact z_sound (f := false) (cuts := [49, 54]) 300 0 [vr 1835, vi x1, vi x2, vn] [] (z_tab (ts, te, tt, b1, b2, b3, b4, b5, b6) ++ t_l (ts, te, tt, b1, b2, b3, b4, b5, b6), t_s (ts, te, tt, b1, b2, b3, b4, b5, b6), I, J) h
set_option maxRecDepth 8000 in
theorem b197_4 {x1 x2 s0 : Int} (h : (inR s0) ∧ ((s0 = 0 → Q (.inl (some (vi 0))) (z_cfg t, I, J)) ∧ (¬ s0 = 0 → (inR (I 1835 23)) ∧ ((I 1835 23 = (2 : Int) → (inR (I 1835 25)) ∧ (((3 : Int) < I 1835 25 → Go sc d mt_197 49 [vr 1835, vi x1, vi x2, vn] [] (z_cfg t, I, J) Q) ∧ (¬ (3 : Int) < I 1835 25 → (inR (I 1835 26)) ∧ ((inR x1) ∧ ((I 1835 26 < x1 → Go sc d mt_197 49 [vr 1835, vi x1, vi x2, vn] [] (z_cfg t, I, J) Q) ∧ (¬ I 1835 26 < x1 → (inR x2) ∧ ((x2 < I 1835 26 → Go sc d mt_197 49 [vr 1835, vi x1, vi x2, vn] [] (z_cfg t, I, J) Q) ∧ (¬ x2 < I 1835 26 → Go sc d mt_197 54 [vr 1835, vi x1, vi x2, vn] [] (z_cfg t, I, J) Q)))))))) ∧ (¬ I 1835 23 = (2 : Int) → Cl sc d 199 [vr 1835, vi 1] (z_cfg t, I, J) (z_k sc d mt_197 false 19 [vr 1835, vi x1, vi x2, vn] [] Q)))))) : Go sc d mt_197 4 [vr 1835, vi x1, vi x2, vn] [vi s0] (z_cfg t, I, J) Q := by
  obtain ⟨ts, te, tt, b1, b2, b3, b4, b5, b6⟩ := t
  · exact z_sound (f := false) (cuts := [49, 54]) 300 4 [vr 1835, vi x1, vi x2, vn] [vi s0] (z_tab (ts, te, tt, b1, b2, b3, b4, b5, b6) ++ t_l (ts, te, tt, b1, b2, b3, b4, b5, b6), t_s (ts, te, tt, b1, b2, b3, b4, b5, b6), I, J) (show (inR s0) ∧ ((s0 = 0 → Q (.inl (some (vi 0))) (z_cfg (ts, te, tt, b1, b2, b3, b4, b5, b6), I, J)) ∧ (¬ s0 = 0 → (inR (I 1835 23)) ∧ (inR 2) ∧ ((I 1835 23 = (2 : Int) → (inR (I 1835 25)) ∧ (inR 3) ∧ (((3 : Int) < I 1835 25 → Go sc d mt_197 49 [vr 1835, vi x1, vi x2, vn] [] (z_cfg (ts, te, tt, b1, b2, b3, b4, b5, b6), I, J) Q) ∧ (¬ (3 : Int) < I 1835 25 → (inR (I 1835 26)) ∧ (inR x1) ∧ ((I 1835 26 < x1 → Go sc d mt_197 49 [vr 1835, vi x1, vi x2, vn] [] (z_cfg (ts, te, tt, b1, b2, b3, b4, b5, b6), I, J) Q) ∧ (¬ I 1835 26 < x1 → (inR (I 1835 26)) ∧ (inR x2) ∧ ((x2 < I 1835 26 → Go sc d mt_197 49 [vr 1835, vi x1, vi x2, vn] [] (z_cfg (ts, te, tt, b1, b2, b3, b4, b5, b6), I, J) Q) ∧ (¬ x2 < I 1835 26 → Go sc d mt_197 54 [vr 1835, vi x1, vi x2, vn] [] (z_cfg (ts, te, tt, b1, b2, b3, b4, b5, b6), I, J) Q))))))) ∧ (¬ I 1835 23 = (2 : Int) → Cl sc d 199 [vr 1835, vi 1] (z_cfg (ts, te, tt, b1, b2, b3, b4, b5, b6), I, J) (z_k sc d mt_197 false 19 [vr 1835, vi x1, vi x2, vn] [] Q))))) from ⟨h.1, ⟨fun c0 => (h.2.1 c0), fun c0 => ⟨(h.2.2 c0).1, ⟨⟨by decide, by decide⟩, ⟨fun c1 => ⟨((h.2.2 c0).2.1 c1).1, ⟨⟨by decide, by decide⟩, ⟨fun c2 => (((h.2.2 c0).2.1 c1).2.1 c2), fun c2 => ⟨(((h.2.2 c0).2.1 c1).2.2 c2).1, ⟨(((h.2.2 c0).2.1 c1).2.2 c2).2.1, ⟨fun c3 => ((((h.2.2 c0).2.1 c1).2.2 c2).2.2.1 c3), fun c3 => ⟨(((h.2.2 c0).2.1 c1).2.2 c2).1, ⟨((((h.2.2 c0).2.1 c1).2.2 c2).2.2.2 c3).1, ⟨fun c4 => (((((h.2.2 c0).2.1 c1).2.2 c2).2.2.2 c3).2.1 c4), fun c4 => (((((h.2.2 c0).2.1 c1).2.2 c2).2.2.2 c3).2.2 c4)⟩⟩⟩⟩⟩⟩⟩⟩⟩, fun c1 => ((h.2.2 c0).2.2 c1)⟩⟩⟩⟩⟩)
set_option maxRecDepth 8000 in
theorem b197_22 {x1 x2 : Int} (h : Go sc d mt_197 54 [vr 1835, vi x1, vi x2, vn] [] (z_cfg t, I, J) Q) : Go sc d mt_197 22 [vr 1835, vi x1, vi x2, vn] [] (z_cfg t, I, J) Q := by
  obtain ⟨ts, te, tt, b1, b2, b3, b4, b5, b6⟩ := t
  · exact z_sound (f := false) (cuts := [49, 54]) 300 22 [vr 1835, vi x1, vi x2, vn] [] (z_tab (ts, te, tt, b1, b2, b3, b4, b5, b6) ++ t_l (ts, te, tt, b1, b2, b3, b4, b5, b6), t_s (ts, te, tt, b1, b2, b3, b4, b5, b6), I, J) h
set_option maxRecDepth 8000 in
theorem b197_49 {x1 x2 : Int} (h : Cl sc d 199 [vr 1835, vi 2] (z_cfg t, I, J) (z_k sc d mt_197 false 51 [vr 1835, vi x1, vi x2, vn] [] Q)) : Go sc d mt_197 49 [vr 1835, vi x1, vi x2, vn] [] (z_cfg t, I, J) Q := by
  obtain ⟨ts, te, tt, b1, b2, b3, b4, b5, b6⟩ := t
  · exact z_sound (f := false) (cuts := [49, 54]) 300 49 [vr 1835, vi x1, vi x2, vn] [] (z_tab (ts, te, tt, b1, b2, b3, b4, b5, b6) ++ t_l (ts, te, tt, b1, b2, b3, b4, b5, b6), t_s (ts, te, tt, b1, b2, b3, b4, b5, b6), I, J) h
set_option maxRecDepth 8000 in
theorem b197_54 {x1 x2 : Int} (h : Cl sc d 198 [vr 1835] (z_cfg t, I, J) (z_k sc d mt_197 false 60 [vr 1835, vi x1, vi x2, vi (I 1835 26)] [] Q)) : Go sc d mt_197 54 [vr 1835, vi x1, vi x2, vn] [] (z_cfg t, I, J) Q := by
  obtain ⟨ts, te, tt, b1, b2, b3, b4, b5, b6⟩ := t
  · exact z_sound (f := false) (cuts := [49, 54]) 300 54 [vr 1835, vi x1, vi x2, vn] [] (z_tab (ts, te, tt, b1, b2, b3, b4, b5, b6) ++ t_l (ts, te, tt, b1, b2, b3, b4, b5, b6), t_s (ts, te, tt, b1, b2, b3, b4, b5, b6), I, J) h
set_option maxRecDepth 8000 in
theorem b197_63 {x1 x2 x3 s0 : Int} (h : (inR s0) ∧ ((s0 = 0 → Q (.inl (some (vi x3))) (z_cfg t, I, J)) ∧ (¬ s0 = 0 → Cl sc d 190 [vr 1835] (z_cfg t, I, J) (z_k sc d mt_197 false 67 [vr 1835, vi x1, vi x2, vi x3] [] Q)))) : Go sc d mt_197 63 [vr 1835, vi x1, vi x2, vi x3] [vi s0] (z_cfg t, I, J) Q := by
  obtain ⟨ts, te, tt, b1, b2, b3, b4, b5, b6⟩ := t
  · exact z_sound (f := false) (cuts := [49, 54]) 300 63 [vr 1835, vi x1, vi x2, vi x3] [vi s0] (z_tab (ts, te, tt, b1, b2, b3, b4, b5, b6) ++ t_l (ts, te, tt, b1, b2, b3, b4, b5, b6), t_s (ts, te, tt, b1, b2, b3, b4, b5, b6), I, J) h
set_option maxRecDepth 8000 in
theorem b197_70 {x1 x2 x3 : Int} (h : Q (.inl (some (vi x3))) (z_cfg t, I, J)) : Go sc d mt_197 70 [vr 1835, vi x1, vi x2, vi x3] [] (z_cfg t, I, J) Q := by
  obtain ⟨ts, te, tt, b1, b2, b3, b4, b5, b6⟩ := t
  · exact z_sound (f := false) (cuts := [49, 54]) 300 70 [vr 1835, vi x1, vi x2, vi x3] [] (z_tab (ts, te, tt, b1, b2, b3, b4, b5, b6) ++ t_l (ts, te, tt, b1, b2, b3, b4, b5, b6), t_s (ts, te, tt, b1, b2, b3, b4, b5, b6), I, J) h
theorem c197 {x1 x2 : Int} {w : zW} {K : zR → zW → Prop} (hd : 1 ≤ d) (h : ∀ d', d = d' + 1 → Go sc d' mt_197 0 [vr 1835, vi x1, vi x2, vn] [] w K) : Cl sc d 197 [vr 1835, vi x1, vi x2] w K := Cl_of rfl hd h
/-! FerryHallModel isGood ()Z -/
set_option maxRecDepth 8000 in
theorem b198_0 (h : (inR (I 1835 19)) ∧ ((I 1835 19 = 0 → Q (.inl (some (vi 1))) (z_cfg t, I, J)) ∧ (¬ I 1835 19 = 0 → Q (.inl (some (vi 0))) (z_cfg t, I, J)))) : Go sc d mt_198 0 [vr 1835] [] (z_cfg t, I, J) Q := by
  obtain ⟨ts, te, tt, b1, b2, b3, b4, b5, b6⟩ := t
  · exact z_sound (f := false) (cuts := []) 300 0 [vr 1835] [] (z_tab (ts, te, tt, b1, b2, b3, b4, b5, b6) ++ t_l (ts, te, tt, b1, b2, b3, b4, b5, b6), t_s (ts, te, tt, b1, b2, b3, b4, b5, b6), I, J) (show (inR (I 1835 19)) ∧ ((I 1835 19 = 0 → ((1 : Int) = 0 ∨ (1 : Int) = 1) ∧ Q (.inl (some (vi 1))) (z_cfg (ts, te, tt, b1, b2, b3, b4, b5, b6), I, J)) ∧ (¬ I 1835 19 = 0 → ((0 : Int) = 0 ∨ (0 : Int) = 1) ∧ Q (.inl (some (vi 0))) (z_cfg (ts, te, tt, b1, b2, b3, b4, b5, b6), I, J))) from ⟨h.1, ⟨fun c0 => ⟨by decide, (h.2.1 c0)⟩, fun c0 => ⟨by decide, (h.2.2 c0)⟩⟩⟩)
theorem c198 {w : zW} {K : zR → zW → Prop} (hd : 1 ≤ d) (h : ∀ d', d = d' + 1 → Go sc d' mt_198 0 [vr 1835] [] w K) : Cl sc d 198 [vr 1835] w K := Cl_of rfl hd h
/-! FerryHallModel wrong (I)V -/
set_option maxRecDepth 8000 in
theorem b199_0 {x1 : Int} (h : (inR (I 1835 19)) ∧ ((I 1835 19 = 0 → Q (.inl none) (z_cfg t, z_u (z_u I 1835 19 x1) 1835 20 (I 1835 24), J)) ∧ (¬ I 1835 19 = 0 → Q (.inl none) (z_cfg t, I, J)))) : Go sc d mt_199 0 [vr 1835, vi x1] [] (z_cfg t, I, J) Q := by
  obtain ⟨ts, te, tt, b1, b2, b3, b4, b5, b6⟩ := t
  · exact z_sound (f := false) (cuts := []) 300 0 [vr 1835, vi x1] [] (z_tab (ts, te, tt, b1, b2, b3, b4, b5, b6) ++ t_l (ts, te, tt, b1, b2, b3, b4, b5, b6), t_s (ts, te, tt, b1, b2, b3, b4, b5, b6), I, J) h
theorem c199 {x1 : Int} {w : zW} {K : zR → zW → Prop} (hd : 1 ≤ d) (h : ∀ d', d = d' + 1 → Go sc d' mt_199 0 [vr 1835, vi x1] [] w K) : Cl sc d 199 [vr 1835, vi x1] w K := Cl_of rfl hd h
/-! FerryHallModel isSign (I)Z -/
set_option maxRecDepth 8000 in
theorem b200_0 {x1 : Int} (h : (inR (I 1835 23)) ∧ ((I 1835 23 = (3 : Int) → (inR (I 1835 27)) ∧ ((inR x1) ∧ ((I 1835 27 = x1 → Q (.inl (some (vi 1))) (z_cfg t, I, J)) ∧ (¬ I 1835 27 = x1 → Q (.inl (some (vi 0))) (z_cfg t, I, J))))) ∧ (¬ I 1835 23 = (3 : Int) → Q (.inl (some (vi 0))) (z_cfg t, I, J)))) : Go sc d mt_200 0 [vr 1835, vi x1] [] (z_cfg t, I, J) Q := by
  obtain ⟨ts, te, tt, b1, b2, b3, b4, b5, b6⟩ := t
  · exact z_sound (f := false) (cuts := []) 300 0 [vr 1835, vi x1] [] (z_tab (ts, te, tt, b1, b2, b3, b4, b5, b6) ++ t_l (ts, te, tt, b1, b2, b3, b4, b5, b6), t_s (ts, te, tt, b1, b2, b3, b4, b5, b6), I, J) (show (inR (I 1835 23)) ∧ (inR 3) ∧ ((I 1835 23 = (3 : Int) → (inR (I 1835 27)) ∧ (inR x1) ∧ ((I 1835 27 = x1 → ((1 : Int) = 0 ∨ (1 : Int) = 1) ∧ Q (.inl (some (vi 1))) (z_cfg (ts, te, tt, b1, b2, b3, b4, b5, b6), I, J)) ∧ (¬ I 1835 27 = x1 → ((0 : Int) = 0 ∨ (0 : Int) = 1) ∧ Q (.inl (some (vi 0))) (z_cfg (ts, te, tt, b1, b2, b3, b4, b5, b6), I, J)))) ∧ (¬ I 1835 23 = (3 : Int) → ((0 : Int) = 0 ∨ (0 : Int) = 1) ∧ Q (.inl (some (vi 0))) (z_cfg (ts, te, tt, b1, b2, b3, b4, b5, b6), I, J))) from ⟨h.1, ⟨⟨by decide, by decide⟩, ⟨fun c0 => ⟨(h.2.1 c0).1, ⟨(h.2.1 c0).2.1, ⟨fun c1 => ⟨by decide, ((h.2.1 c0).2.2.1 c1)⟩, fun c1 => ⟨by decide, ((h.2.1 c0).2.2.2 c1)⟩⟩⟩⟩, fun c0 => ⟨by decide, (h.2.2 c0)⟩⟩⟩⟩)
theorem c200 {x1 : Int} {w : zW} {K : zR → zW → Prop} (hd : 1 ≤ d) (h : ∀ d', d = d' + 1 → Go sc d' mt_200 0 [vr 1835, vi x1] [] w K) : Cl sc d 200 [vr 1835, vi x1] w K := Cl_of rfl hd h
/-! FerryHallModel clause ()V -/
set_option maxRecDepth 8000 in
theorem b201_0 (h : Cl sc d 194 [vr 1835] (z_cfg t, I, J) (z_k sc d mt_201 false 1 [vr 1835, vn] [] Q)) : Go sc d mt_201 0 [vr 1835, vn] [] (z_cfg t, I, J) Q := by
  obtain ⟨ts, te, tt, b1, b2, b3, b4, b5, b6⟩ := t
  · exact z_sound (f := false) (cuts := [16, 21, 63, 74, 96, 117]) 300 0 [vr 1835, vn] [] (z_tab (ts, te, tt, b1, b2, b3, b4, b5, b6) ++ t_l (ts, te, tt, b1, b2, b3, b4, b5, b6), t_s (ts, te, tt, b1, b2, b3, b4, b5, b6), I, J) h
set_option maxRecDepth 8000 in
theorem b201_4 {s0 : Int} (h : (inR s0) ∧ ((s0 < (1 : Int) → Go sc d mt_201 16 [vr 1835, vi s0] [] (z_cfg t, I, J) Q) ∧ (¬ s0 < (1 : Int) → ((6 : Int) < s0 → Go sc d mt_201 16 [vr 1835, vi s0] [] (z_cfg t, I, J) Q) ∧ (¬ (6 : Int) < s0 → Go sc d mt_201 21 [vr 1835, vi s0] [] (z_cfg t, I, J) Q)))) : Go sc d mt_201 4 [vr 1835, vn] [vi s0] (z_cfg t, I, J) Q := by
  obtain ⟨ts, te, tt, b1, b2, b3, b4, b5, b6⟩ := t
  · exact z_sound (f := false) (cuts := [16, 21, 63, 74, 96, 117]) 300 4 [vr 1835, vn] [vi s0] (z_tab (ts, te, tt, b1, b2, b3, b4, b5, b6) ++ t_l (ts, te, tt, b1, b2, b3, b4, b5, b6), t_s (ts, te, tt, b1, b2, b3, b4, b5, b6), I, J) (show (inR s0) ∧ (inR 1) ∧ ((s0 < (1 : Int) → Go sc d mt_201 16 [vr 1835, vi s0] [] (z_cfg (ts, te, tt, b1, b2, b3, b4, b5, b6), I, J) Q) ∧ (¬ s0 < (1 : Int) → (inR s0) ∧ (inR 6) ∧ (((6 : Int) < s0 → Go sc d mt_201 16 [vr 1835, vi s0] [] (z_cfg (ts, te, tt, b1, b2, b3, b4, b5, b6), I, J) Q) ∧ (¬ (6 : Int) < s0 → Go sc d mt_201 21 [vr 1835, vi s0] [] (z_cfg (ts, te, tt, b1, b2, b3, b4, b5, b6), I, J) Q)))) from ⟨h.1, ⟨⟨by decide, by decide⟩, ⟨fun c0 => (h.2.1 c0), fun c0 => ⟨h.1, ⟨⟨by decide, by decide⟩, ⟨fun c1 => ((h.2.2 c0).1 c1), fun c1 => ((h.2.2 c0).2 c1)⟩⟩⟩⟩⟩⟩)
set_option maxRecDepth 8000 in
theorem b201_16 {x1 : Int} (h : Cl sc d 199 [vr 1835, vi 1] (z_cfg t, I, J) (z_k sc d mt_201 false 18 [vr 1835, vi x1] [] Q)) : Go sc d mt_201 16 [vr 1835, vi x1] [] (z_cfg t, I, J) Q := by
  obtain ⟨ts, te, tt, b1, b2, b3, b4, b5, b6⟩ := t
  · exact z_sound (f := false) (cuts := [16, 21, 63, 74, 96, 117]) 300 16 [vr 1835, vi x1] [] (z_tab (ts, te, tt, b1, b2, b3, b4, b5, b6) ++ t_l (ts, te, tt, b1, b2, b3, b4, b5, b6), t_s (ts, te, tt, b1, b2, b3, b4, b5, b6), I, J) h
set_option maxRecDepth 8000 in
theorem b201_21 {x1 : Int} (h : Cl sc d 198 [vr 1835] (z_cfg t, I, J) (z_k sc d mt_201 false 22 [vr 1835, vi x1] [] Q)) : Go sc d mt_201 21 [vr 1835, vi x1] [] (z_cfg t, I, J) Q := by
  obtain ⟨ts, te, tt, b1, b2, b3, b4, b5, b6⟩ := t
  · exact z_sound (f := false) (cuts := [16, 21, 63, 74, 96, 117]) 300 21 [vr 1835, vi x1] [] (z_tab (ts, te, tt, b1, b2, b3, b4, b5, b6) ++ t_l (ts, te, tt, b1, b2, b3, b4, b5, b6), t_s (ts, te, tt, b1, b2, b3, b4, b5, b6), I, J) h
set_option maxRecDepth 8000 in
theorem b201_25 {x1 s0 : Int} (h : (inR s0) ∧ ((s0 = 0 → Q (.inl none) (z_cfg t, I, J)) ∧ (¬ s0 = 0 → (inR x1) ∧ ((x1 = (1 : Int) → Cl sc d 202 [vr 1835] (z_cfg t, I, J) (z_k sc d mt_201 false 35 [vr 1835, vi x1] [] Q)) ∧ (¬ x1 = (1 : Int) → (x1 = (2 : Int) → Cl sc d 205 [vr 1835] (z_cfg t, I, J) (z_k sc d mt_201 false 47 [vr 1835, vi x1] [] Q)) ∧ (¬ x1 = (2 : Int) → (x1 = (3 : Int) → Go sc d mt_201 63 [vr 1835, vi x1] [] (z_cfg t, I, J) Q) ∧ (¬ x1 = (3 : Int) → (x1 = (4 : Int) → Go sc d mt_201 63 [vr 1835, vi x1] [] (z_cfg t, I, J) Q) ∧ (¬ x1 = (4 : Int) → (x1 = (5 : Int) → Cl sc d 208 [vr 1835] (z_cfg t, I, J) (z_k sc d mt_201 false 86 [vr 1835, vi x1] [] Q)) ∧ (¬ x1 = (5 : Int) → Cl sc d 209 [vr 1835] (z_cfg t, I, J) (z_k sc d mt_201 false 93 [vr 1835, vi x1] [] Q)))))))))) : Go sc d mt_201 25 [vr 1835, vi x1] [vi s0] (z_cfg t, I, J) Q := by
  obtain ⟨ts, te, tt, b1, b2, b3, b4, b5, b6⟩ := t
  · exact z_sound (f := false) (cuts := [16, 21, 63, 74, 96, 117]) 300 25 [vr 1835, vi x1] [vi s0] (z_tab (ts, te, tt, b1, b2, b3, b4, b5, b6) ++ t_l (ts, te, tt, b1, b2, b3, b4, b5, b6), t_s (ts, te, tt, b1, b2, b3, b4, b5, b6), I, J) (show (inR s0) ∧ ((s0 = 0 → Q (.inl none) (z_cfg (ts, te, tt, b1, b2, b3, b4, b5, b6), I, J)) ∧ (¬ s0 = 0 → (inR x1) ∧ (inR 1) ∧ ((x1 = (1 : Int) → Cl sc d 202 [vr 1835] (z_cfg (ts, te, tt, b1, b2, b3, b4, b5, b6), I, J) (z_k sc d mt_201 false 35 [vr 1835, vi x1] [] Q)) ∧ (¬ x1 = (1 : Int) → (inR x1) ∧ (inR 2) ∧ ((x1 = (2 : Int) → Cl sc d 205 [vr 1835] (z_cfg (ts, te, tt, b1, b2, b3, b4, b5, b6), I, J) (z_k sc d mt_201 false 47 [vr 1835, vi x1] [] Q)) ∧ (¬ x1 = (2 : Int) → (inR x1) ∧ (inR 3) ∧ ((x1 = (3 : Int) → Go sc d mt_201 63 [vr 1835, vi x1] [] (z_cfg (ts, te, tt, b1, b2, b3, b4, b5, b6), I, J) Q) ∧ (¬ x1 = (3 : Int) → (inR x1) ∧ (inR 4) ∧ ((x1 = (4 : Int) → Go sc d mt_201 63 [vr 1835, vi x1] [] (z_cfg (ts, te, tt, b1, b2, b3, b4, b5, b6), I, J) Q) ∧ (¬ x1 = (4 : Int) → (inR x1) ∧ (inR 5) ∧ ((x1 = (5 : Int) → Cl sc d 208 [vr 1835] (z_cfg (ts, te, tt, b1, b2, b3, b4, b5, b6), I, J) (z_k sc d mt_201 false 86 [vr 1835, vi x1] [] Q)) ∧ (¬ x1 = (5 : Int) → Cl sc d 209 [vr 1835] (z_cfg (ts, te, tt, b1, b2, b3, b4, b5, b6), I, J) (z_k sc d mt_201 false 93 [vr 1835, vi x1] [] Q))))))))))))) from ⟨h.1, ⟨fun c0 => (h.2.1 c0), fun c0 => ⟨(h.2.2 c0).1, ⟨⟨by decide, by decide⟩, ⟨fun c1 => ((h.2.2 c0).2.1 c1), fun c1 => ⟨(h.2.2 c0).1, ⟨⟨by decide, by decide⟩, ⟨fun c2 => (((h.2.2 c0).2.2 c1).1 c2), fun c2 => ⟨(h.2.2 c0).1, ⟨⟨by decide, by decide⟩, ⟨fun c3 => ((((h.2.2 c0).2.2 c1).2 c2).1 c3), fun c3 => ⟨(h.2.2 c0).1, ⟨⟨by decide, by decide⟩, ⟨fun c4 => (((((h.2.2 c0).2.2 c1).2 c2).2 c3).1 c4), fun c4 => ⟨(h.2.2 c0).1, ⟨⟨by decide, by decide⟩, ⟨fun c5 => ((((((h.2.2 c0).2.2 c1).2 c2).2 c3).2 c4).1 c5), fun c5 => ((((((h.2.2 c0).2.2 c1).2 c2).2 c3).2 c4).2 c5)⟩⟩⟩⟩⟩⟩⟩⟩⟩⟩⟩⟩⟩⟩⟩⟩⟩)
set_option maxRecDepth 8000 in
theorem b201_38 {x1 : Int} (h : Go sc d mt_201 96 [vr 1835, vi x1] [] (z_cfg t, I, J) Q) : Go sc d mt_201 38 [vr 1835, vi x1] [] (z_cfg t, I, J) Q := by
  obtain ⟨ts, te, tt, b1, b2, b3, b4, b5, b6⟩ := t
  · exact z_sound (f := false) (cuts := [16, 21, 63, 74, 96, 117]) 300 38 [vr 1835, vi x1] [] (z_tab (ts, te, tt, b1, b2, b3, b4, b5, b6) ++ t_l (ts, te, tt, b1, b2, b3, b4, b5, b6), t_s (ts, te, tt, b1, b2, b3, b4, b5, b6), I, J) h
set_option maxRecDepth 8000 in
theorem b201_50 {x1 : Int} (h : Go sc d mt_201 96 [vr 1835, vi x1] [] (z_cfg t, I, J) Q) : Go sc d mt_201 50 [vr 1835, vi x1] [] (z_cfg t, I, J) Q := by
  obtain ⟨ts, te, tt, b1, b2, b3, b4, b5, b6⟩ := t
  · exact z_sound (f := false) (cuts := [16, 21, 63, 74, 96, 117]) 300 50 [vr 1835, vi x1] [] (z_tab (ts, te, tt, b1, b2, b3, b4, b5, b6) ++ t_l (ts, te, tt, b1, b2, b3, b4, b5, b6), t_s (ts, te, tt, b1, b2, b3, b4, b5, b6), I, J) h
set_option maxRecDepth 8000 in
theorem b201_63 {x1 : Int} (h : (inR x1) ∧ ((x1 = (3 : Int) → Go sc d mt_201 74 [vr 1835, vi x1] [vi 1, vr 1835] (z_cfg t, I, J) Q) ∧ (¬ x1 = (3 : Int) → Go sc d mt_201 74 [vr 1835, vi x1] [vi 0, vr 1835] (z_cfg t, I, J) Q))) : Go sc d mt_201 63 [vr 1835, vi x1] [] (z_cfg t, I, J) Q := by
  obtain ⟨ts, te, tt, b1, b2, b3, b4, b5, b6⟩ := t
  · exact z_sound (f := false) (cuts := [16, 21, 63, 74, 96, 117]) 300 63 [vr 1835, vi x1] [] (z_tab (ts, te, tt, b1, b2, b3, b4, b5, b6) ++ t_l (ts, te, tt, b1, b2, b3, b4, b5, b6), t_s (ts, te, tt, b1, b2, b3, b4, b5, b6), I, J) (show (inR x1) ∧ (inR 3) ∧ ((x1 = (3 : Int) → Go sc d mt_201 74 [vr 1835, vi x1] [vi 1, vr 1835] (z_cfg (ts, te, tt, b1, b2, b3, b4, b5, b6), I, J) Q) ∧ (¬ x1 = (3 : Int) → Go sc d mt_201 74 [vr 1835, vi x1] [vi 0, vr 1835] (z_cfg (ts, te, tt, b1, b2, b3, b4, b5, b6), I, J) Q)) from ⟨h.1, ⟨⟨by decide, by decide⟩, ⟨fun c0 => (h.2.1 c0), fun c0 => (h.2.2 c0)⟩⟩⟩)
set_option maxRecDepth 8000 in
theorem b201_74 {x1 s0 : Int} (h : Cl sc d 207 [vr 1835, vi s0] (z_cfg t, I, J) (z_k sc d mt_201 false 74 [vr 1835, vi x1] [] Q)) : Go sc d mt_201 74 [vr 1835, vi x1] [vi s0, vr 1835] (z_cfg t, I, J) Q := by
  obtain ⟨ts, te, tt, b1, b2, b3, b4, b5, b6⟩ := t
  · exact z_sound (f := false) (cuts := [16, 21, 63, 74, 96, 117]) 300 74 [vr 1835, vi x1] [vi s0, vr 1835] (z_tab (ts, te, tt, b1, b2, b3, b4, b5, b6) ++ t_l (ts, te, tt, b1, b2, b3, b4, b5, b6), t_s (ts, te, tt, b1, b2, b3, b4, b5, b6), I, J) h
set_option maxRecDepth 8000 in
theorem b201_77 {x1 : Int} (h : Go sc d mt_201 96 [vr 1835, vi x1] [] (z_cfg t, I, J) Q) : Go sc d mt_201 77 [vr 1835, vi x1] [] (z_cfg t, I, J) Q := by
  obtain ⟨ts, te, tt, b1, b2, b3, b4, b5, b6⟩ := t
  · exact z_sound (f := false) (cuts := [16, 21, 63, 74, 96, 117]) 300 77 [vr 1835, vi x1] [] (z_tab (ts, te, tt, b1, b2, b3, b4, b5, b6) ++ t_l (ts, te, tt, b1, b2, b3, b4, b5, b6), t_s (ts, te, tt, b1, b2, b3, b4, b5, b6), I, J) h
set_option maxRecDepth 8000 in
theorem b201_89 {x1 : Int} (h : Go sc d mt_201 96 [vr 1835, vi x1] [] (z_cfg t, I, J) Q) : Go sc d mt_201 89 [vr 1835, vi x1] [] (z_cfg t, I, J) Q := by
  obtain ⟨ts, te, tt, b1, b2, b3, b4, b5, b6⟩ := t
  · exact z_sound (f := false) (cuts := [16, 21, 63, 74, 96, 117]) 300 89 [vr 1835, vi x1] [] (z_tab (ts, te, tt, b1, b2, b3, b4, b5, b6) ++ t_l (ts, te, tt, b1, b2, b3, b4, b5, b6), t_s (ts, te, tt, b1, b2, b3, b4, b5, b6), I, J) h
set_option maxRecDepth 8000 in
theorem b201_96 {x1 : Int} (h : Cl sc d 198 [vr 1835] (z_cfg t, I, J) (z_k sc d mt_201 false 97 [vr 1835, vi x1] [] Q)) : Go sc d mt_201 96 [vr 1835, vi x1] [] (z_cfg t, I, J) Q := by
  obtain ⟨ts, te, tt, b1, b2, b3, b4, b5, b6⟩ := t
  · exact z_sound (f := false) (cuts := [16, 21, 63, 74, 96, 117]) 300 96 [vr 1835, vi x1] [] (z_tab (ts, te, tt, b1, b2, b3, b4, b5, b6) ++ t_l (ts, te, tt, b1, b2, b3, b4, b5, b6), t_s (ts, te, tt, b1, b2, b3, b4, b5, b6), I, J) h
set_option maxRecDepth 8000 in
theorem b201_100 {x1 s0 : Int} (h : (inR s0) ∧ ((s0 = 0 → Go sc d mt_201 117 [vr 1835, vi x1] [] (z_cfg t, I, J) Q) ∧ (¬ s0 = 0 → Cl sc d 200 [vr 1835, vi 59] (z_cfg t, I, J) (z_k sc d mt_201 false 106 [vr 1835, vi x1] [] Q)))) : Go sc d mt_201 100 [vr 1835, vi x1] [vi s0] (z_cfg t, I, J) Q := by
  obtain ⟨ts, te, tt, b1, b2, b3, b4, b5, b6⟩ := t
  · exact z_sound (f := false) (cuts := [16, 21, 63, 74, 96, 117]) 300 100 [vr 1835, vi x1] [vi s0] (z_tab (ts, te, tt, b1, b2, b3, b4, b5, b6) ++ t_l (ts, te, tt, b1, b2, b3, b4, b5, b6), t_s (ts, te, tt, b1, b2, b3, b4, b5, b6), I, J) h
set_option maxRecDepth 8000 in
theorem b201_109 {x1 s0 : Int} (h : (inR s0) ∧ ((s0 = 0 → Cl sc d 199 [vr 1835, vi 1] (z_cfg t, I, J) (z_k sc d mt_201 false 114 [vr 1835, vi x1] [] Q)) ∧ (¬ s0 = 0 → Go sc d mt_201 117 [vr 1835, vi x1] [] (z_cfg t, I, J) Q))) : Go sc d mt_201 109 [vr 1835, vi x1] [vi s0] (z_cfg t, I, J) Q := by
  obtain ⟨ts, te, tt, b1, b2, b3, b4, b5, b6⟩ := t
  · exact z_sound (f := false) (cuts := [16, 21, 63, 74, 96, 117]) 300 109 [vr 1835, vi x1] [vi s0] (z_tab (ts, te, tt, b1, b2, b3, b4, b5, b6) ++ t_l (ts, te, tt, b1, b2, b3, b4, b5, b6), t_s (ts, te, tt, b1, b2, b3, b4, b5, b6), I, J) h
set_option maxRecDepth 8000 in
theorem b201_117 {x1 : Int} (h : Cl sc d 198 [vr 1835] (z_cfg t, I, J) (z_k sc d mt_201 false 118 [vr 1835, vi x1] [] Q)) : Go sc d mt_201 117 [vr 1835, vi x1] [] (z_cfg t, I, J) Q := by
  obtain ⟨ts, te, tt, b1, b2, b3, b4, b5, b6⟩ := t
  · exact z_sound (f := false) (cuts := [16, 21, 63, 74, 96, 117]) 300 117 [vr 1835, vi x1] [] (z_tab (ts, te, tt, b1, b2, b3, b4, b5, b6) ++ t_l (ts, te, tt, b1, b2, b3, b4, b5, b6), t_s (ts, te, tt, b1, b2, b3, b4, b5, b6), I, J) h
set_option maxRecDepth 8000 in
theorem b201_121 {x1 s0 : Int} (h : (inR s0) ∧ ((s0 = 0 → Q (.inl none) (z_cfg t, I, J)) ∧ (¬ s0 = 0 → Cl sc d 190 [vr 1835] (z_cfg t, I, J) (z_k sc d mt_201 false 125 [vr 1835, vi x1] [] Q)))) : Go sc d mt_201 121 [vr 1835, vi x1] [vi s0] (z_cfg t, I, J) Q := by
  obtain ⟨ts, te, tt, b1, b2, b3, b4, b5, b6⟩ := t
  · exact z_sound (f := false) (cuts := [16, 21, 63, 74, 96, 117]) 300 121 [vr 1835, vi x1] [vi s0] (z_tab (ts, te, tt, b1, b2, b3, b4, b5, b6) ++ t_l (ts, te, tt, b1, b2, b3, b4, b5, b6), t_s (ts, te, tt, b1, b2, b3, b4, b5, b6), I, J) h
set_option maxRecDepth 8000 in
theorem b201_128 {x1 : Int} (h : Q (.inl none) (z_cfg t, I, J)) : Go sc d mt_201 128 [vr 1835, vi x1] [] (z_cfg t, I, J) Q := by
  obtain ⟨ts, te, tt, b1, b2, b3, b4, b5, b6⟩ := t
  · exact z_sound (f := false) (cuts := [16, 21, 63, 74, 96, 117]) 300 128 [vr 1835, vi x1] [] (z_tab (ts, te, tt, b1, b2, b3, b4, b5, b6) ++ t_l (ts, te, tt, b1, b2, b3, b4, b5, b6), t_s (ts, te, tt, b1, b2, b3, b4, b5, b6), I, J) h
theorem c201 {w : zW} {K : zR → zW → Prop} (hd : 1 ≤ d) (h : ∀ d', d = d' + 1 → Go sc d' mt_201 0 [vr 1835, vn] [] w K) : Cl sc d 201 [vr 1835] w K := Cl_of rfl hd h
/-! FerryHallModel thing ()V -/
set_option maxRecDepth 8000 in
theorem b202_0 (h : (inR (I 1835 30)) ∧ ((I 1835 30 = (8 : Int) → Cl sc d 199 [vr 1835, vi 2] (z_cfg t, I, J) (z_k sc d mt_202 false 11 [vr 1835, vn, vn, vn] [] Q)) ∧ (¬ I 1835 30 = (8 : Int) → Go sc d mt_202 14 [vr 1835, vn, vn, vn] [] (z_cfg t, I, J) Q))) : Go sc d mt_202 0 [vr 1835, vn, vn, vn] [] (z_cfg t, I, J) Q := by
  obtain ⟨ts, te, tt, b1, b2, b3, b4, b5, b6⟩ := t
  · exact z_sound (f := false) (cuts := [14, 42, 67, 128]) 300 0 [vr 1835, vn, vn, vn] [] (z_tab (ts, te, tt, b1, b2, b3, b4, b5, b6) ++ t_l (ts, te, tt, b1, b2, b3, b4, b5, b6), t_s (ts, te, tt, b1, b2, b3, b4, b5, b6), I, J) (show (inR (I 1835 30)) ∧ (inR 8) ∧ ((I 1835 30 = (8 : Int) → Cl sc d 199 [vr 1835, vi 2] (z_cfg (ts, te, tt, b1, b2, b3, b4, b5, b6), I, J) (z_k sc d mt_202 false 11 [vr 1835, vn, vn, vn] [] Q)) ∧ (¬ I 1835 30 = (8 : Int) → Go sc d mt_202 14 [vr 1835, vn, vn, vn] [] (z_cfg (ts, te, tt, b1, b2, b3, b4, b5, b6), I, J) Q)) from ⟨h.1, ⟨⟨by decide, by decide⟩, ⟨fun c0 => (h.2.1 c0), fun c0 => (h.2.2 c0)⟩⟩⟩)
set_option maxRecDepth 8000 in
theorem b202_14 (h : Cl sc d 198 [vr 1835] (z_cfg t, I, J) (z_k sc d mt_202 false 15 [vr 1835, vn, vn, vn] [] Q)) : Go sc d mt_202 14 [vr 1835, vn, vn, vn] [] (z_cfg t, I, J) Q := by
  obtain ⟨ts, te, tt, b1, b2, b3, b4, b5, b6⟩ := t
  · exact z_sound (f := false) (cuts := [14, 42, 67, 128]) 300 14 [vr 1835, vn, vn, vn] [] (z_tab (ts, te, tt, b1, b2, b3, b4, b5, b6) ++ t_l (ts, te, tt, b1, b2, b3, b4, b5, b6), t_s (ts, te, tt, b1, b2, b3, b4, b5, b6), I, J) h
set_option maxRecDepth 8000 in
theorem b202_18 {s0 : Int} (h : (inR s0) ∧ ((s0 = 0 → Q (.inl none) (z_cfg t, I, J)) ∧ (¬ s0 = 0 → Cl sc d 190 [vr 1835] (z_cfg t, I, J) (z_k sc d mt_202 false 23 [vr 1835, vn, vn, vn] [] Q)))) : Go sc d mt_202 18 [vr 1835, vn, vn, vn] [vi s0] (z_cfg t, I, J) Q := by
  obtain ⟨ts, te, tt, b1, b2, b3, b4, b5, b6⟩ := t
  · exact z_sound (f := false) (cuts := [14, 42, 67, 128]) 300 18 [vr 1835, vn, vn, vn] [vi s0] (z_tab (ts, te, tt, b1, b2, b3, b4, b5, b6) ++ t_l (ts, te, tt, b1, b2, b3, b4, b5, b6), t_s (ts, te, tt, b1, b2, b3, b4, b5, b6), I, J) h
set_option maxRecDepth 8000 in
theorem b202_26 (h : (inR (I 1835 23)) ∧ ((I 1835 23 = (1 : Int) → (inR (I 1835 25)) ∧ ((I 1835 25 = (1 : Int) → Cl sc d 203 [vr 1835, vi (I 1835 27)] (z_cfg t, I, J) (z_k sc d mt_202 false 55 [vr 1835, vn, vn, vn] [] Q)) ∧ (¬ I 1835 25 = (1 : Int) → Go sc d mt_202 42 [vr 1835, vn, vn, vn] [] (z_cfg t, I, J) Q))) ∧ (¬ I 1835 23 = (1 : Int) → Go sc d mt_202 42 [vr 1835, vn, vn, vn] [] (z_cfg t, I, J) Q))) : Go sc d mt_202 26 [vr 1835, vn, vn, vn] [] (z_cfg t, I, J) Q := by
  obtain ⟨ts, te, tt, b1, b2, b3, b4, b5, b6⟩ := t
  · exact z_sound (f := false) (cuts := [14, 42, 67, 128]) 300 26 [vr 1835, vn, vn, vn] [] (z_tab (ts, te, tt, b1, b2, b3, b4, b5, b6) ++ t_l (ts, te, tt, b1, b2, b3, b4, b5, b6), t_s (ts, te, tt, b1, b2, b3, b4, b5, b6), I, J) (show (inR (I 1835 23)) ∧ (inR 1) ∧ ((I 1835 23 = (1 : Int) → (inR (I 1835 25)) ∧ (inR 1) ∧ ((I 1835 25 = (1 : Int) → Cl sc d 203 [vr 1835, vi (I 1835 27)] (z_cfg (ts, te, tt, b1, b2, b3, b4, b5, b6), I, J) (z_k sc d mt_202 false 55 [vr 1835, vn, vn, vn] [] Q)) ∧ (¬ I 1835 25 = (1 : Int) → Go sc d mt_202 42 [vr 1835, vn, vn, vn] [] (z_cfg (ts, te, tt, b1, b2, b3, b4, b5, b6), I, J) Q))) ∧ (¬ I 1835 23 = (1 : Int) → Go sc d mt_202 42 [vr 1835, vn, vn, vn] [] (z_cfg (ts, te, tt, b1, b2, b3, b4, b5, b6), I, J) Q)) from ⟨h.1, ⟨⟨by decide, by decide⟩, ⟨fun c0 => ⟨(h.2.1 c0).1, ⟨⟨by decide, by decide⟩, ⟨fun c1 => ((h.2.1 c0).2.1 c1), fun c1 => ((h.2.1 c0).2.2 c1)⟩⟩⟩, fun c0 => (h.2.2 c0)⟩⟩⟩)
set_option maxRecDepth 8000 in
theorem b202_42 (h : Cl sc d 199 [vr 1835, vi 1] (z_cfg t, I, J) (z_k sc d mt_202 false 44 [vr 1835, vn, vn, vn] [] Q)) : Go sc d mt_202 42 [vr 1835, vn, vn, vn] [] (z_cfg t, I, J) Q := by
  obtain ⟨ts, te, tt, b1, b2, b3, b4, b5, b6⟩ := t
  · exact z_sound (f := false) (cuts := [14, 42, 67, 128]) 300 42 [vr 1835, vn, vn, vn] [] (z_tab (ts, te, tt, b1, b2, b3, b4, b5, b6) ++ t_l (ts, te, tt, b1, b2, b3, b4, b5, b6), t_s (ts, te, tt, b1, b2, b3, b4, b5, b6), I, J) h
set_option maxRecDepth 8000 in
theorem b202_47 (h : Go sc d mt_202 67 [vr 1835, vn, vn, vn] [] (z_cfg t, I, J) Q) : Go sc d mt_202 47 [vr 1835, vn, vn, vn] [] (z_cfg t, I, J) Q := by
  obtain ⟨ts, te, tt, b1, b2, b3, b4, b5, b6⟩ := t
  · exact z_sound (f := false) (cuts := [14, 42, 67, 128]) 300 47 [vr 1835, vn, vn, vn] [] (z_tab (ts, te, tt, b1, b2, b3, b4, b5, b6) ++ t_l (ts, te, tt, b1, b2, b3, b4, b5, b6), t_s (ts, te, tt, b1, b2, b3, b4, b5, b6), I, J) h
set_option maxRecDepth 8000 in
theorem b202_58 {s0 : Int} (h : (inR s0) ∧ ((s0 = ((-1) : Int) → Go sc d mt_202 67 [vr 1835, vn, vn, vn] [] (z_cfg t, I, J) Q) ∧ (¬ s0 = ((-1) : Int) → Cl sc d 199 [vr 1835, vi 5] (z_cfg t, I, J) (z_k sc d mt_202 false 64 [vr 1835, vn, vn, vn] [] Q)))) : Go sc d mt_202 58 [vr 1835, vn, vn, vn] [vi s0] (z_cfg t, I, J) Q := by
  obtain ⟨ts, te, tt, b1, b2, b3, b4, b5, b6⟩ := t
  · exact z_sound (f := false) (cuts := [14, 42, 67, 128]) 300 58 [vr 1835, vn, vn, vn] [vi s0] (z_tab (ts, te, tt, b1, b2, b3, b4, b5, b6) ++ t_l (ts, te, tt, b1, b2, b3, b4, b5, b6), t_s (ts, te, tt, b1, b2, b3, b4, b5, b6), I, J) (show (inR s0) ∧ (inR (-1)) ∧ ((s0 = ((-1) : Int) → Go sc d mt_202 67 [vr 1835, vn, vn, vn] [] (z_cfg (ts, te, tt, b1, b2, b3, b4, b5, b6), I, J) Q) ∧ (¬ s0 = ((-1) : Int) → Cl sc d 199 [vr 1835, vi 5] (z_cfg (ts, te, tt, b1, b2, b3, b4, b5, b6), I, J) (z_k sc d mt_202 false 64 [vr 1835, vn, vn, vn] [] Q))) from ⟨h.1, ⟨⟨by decide, by decide⟩, ⟨fun c0 => (h.2.1 c0), fun c0 => (h.2.2 c0)⟩⟩⟩)
set_option maxRecDepth 8000 in
theorem b202_67 (h : Cl sc d 198 [vr 1835] (z_cfg t, I, J) (z_k sc d mt_202 false 68 [vr 1835, vn, vn, vn] [] Q)) : Go sc d mt_202 67 [vr 1835, vn, vn, vn] [] (z_cfg t, I, J) Q := by
  obtain ⟨ts, te, tt, b1, b2, b3, b4, b5, b6⟩ := t
  · exact z_sound (f := false) (cuts := [14, 42, 67, 128]) 300 67 [vr 1835, vn, vn, vn] [] (z_tab (ts, te, tt, b1, b2, b3, b4, b5, b6) ++ t_l (ts, te, tt, b1, b2, b3, b4, b5, b6), t_s (ts, te, tt, b1, b2, b3, b4, b5, b6), I, J) h
set_option maxRecDepth 8000 in
theorem b202_71 {s0 : Int} (h : (inR s0) ∧ ((s0 = 0 → Q (.inl none) (z_cfg t, I, J)) ∧ (¬ s0 = 0 → Cl sc d 190 [vr 1835] (z_cfg t, I, J) (z_k sc d mt_202 false 81 [vr 1835, vi (I 1835 27), vn, vn] [] Q)))) : Go sc d mt_202 71 [vr 1835, vn, vn, vn] [vi s0] (z_cfg t, I, J) Q := by
  obtain ⟨ts, te, tt, b1, b2, b3, b4, b5, b6⟩ := t
  · exact z_sound (f := false) (cuts := [14, 42, 67, 128]) 300 71 [vr 1835, vn, vn, vn] [vi s0] (z_tab (ts, te, tt, b1, b2, b3, b4, b5, b6) ++ t_l (ts, te, tt, b1, b2, b3, b4, b5, b6), t_s (ts, te, tt, b1, b2, b3, b4, b5, b6), I, J) h
set_option maxRecDepth 8000 in
theorem b202_84 {x1 : Int} (h : Cl sc d 204 [vr 1835, vi 7] (z_cfg t, I, J) (z_k sc d mt_202 false 87 [vr 1835, vi x1, vn, vn] [] Q)) : Go sc d mt_202 84 [vr 1835, vi x1, vn, vn] [] (z_cfg t, I, J) Q := by
  obtain ⟨ts, te, tt, b1, b2, b3, b4, b5, b6⟩ := t
  · exact z_sound (f := false) (cuts := [14, 42, 67, 128]) 300 84 [vr 1835, vi x1, vn, vn] [] (z_tab (ts, te, tt, b1, b2, b3, b4, b5, b6) ++ t_l (ts, te, tt, b1, b2, b3, b4, b5, b6), t_s (ts, te, tt, b1, b2, b3, b4, b5, b6), I, J) h
set_option maxRecDepth 8000 in
theorem b202_90 {x1 : Int} (h : Cl sc d 197 [vr 1835, vi 0, vi 99] (z_cfg t, I, J) (z_k sc d mt_202 false 94 [vr 1835, vi x1, vn, vn] [] Q)) : Go sc d mt_202 90 [vr 1835, vi x1, vn, vn] [] (z_cfg t, I, J) Q := by
  obtain ⟨ts, te, tt, b1, b2, b3, b4, b5, b6⟩ := t
  · exact z_sound (f := false) (cuts := [14, 42, 67, 128]) 300 90 [vr 1835, vi x1, vn, vn] [] (z_tab (ts, te, tt, b1, b2, b3, b4, b5, b6) ++ t_l (ts, te, tt, b1, b2, b3, b4, b5, b6), t_s (ts, te, tt, b1, b2, b3, b4, b5, b6), I, J) h
set_option maxRecDepth 8000 in
theorem b202_97 {x1 s0 : Int} (h : Cl sc d 198 [vr 1835] (z_cfg t, I, J) (z_k sc d mt_202 false 101 [vr 1835, vi x1, vi s0, vi 0] [] Q)) : Go sc d mt_202 97 [vr 1835, vi x1, vn, vn] [vi s0] (z_cfg t, I, J) Q := by
  obtain ⟨ts, te, tt, b1, b2, b3, b4, b5, b6⟩ := t
  · exact z_sound (f := false) (cuts := [14, 42, 67, 128]) 300 97 [vr 1835, vi x1, vn, vn] [vi s0] (z_tab (ts, te, tt, b1, b2, b3, b4, b5, b6) ++ t_l (ts, te, tt, b1, b2, b3, b4, b5, b6), t_s (ts, te, tt, b1, b2, b3, b4, b5, b6), I, J) h
set_option maxRecDepth 8000 in
theorem b202_104 {x1 x2 x3 s0 : Int} (h : (inR s0) ∧ ((s0 = 0 → Go sc d mt_202 128 [vr 1835, vi x1, vi x2, vi x3] [] (z_cfg t, I, J) Q) ∧ (¬ s0 = 0 → Cl sc d 194 [vr 1835] (z_cfg t, I, J) (z_k sc d mt_202 false 108 [vr 1835, vi x1, vi x2, vi x3] [] Q)))) : Go sc d mt_202 104 [vr 1835, vi x1, vi x2, vi x3] [vi s0] (z_cfg t, I, J) Q := by
  obtain ⟨ts, te, tt, b1, b2, b3, b4, b5, b6⟩ := t
  · exact z_sound (f := false) (cuts := [14, 42, 67, 128]) 300 104 [vr 1835, vi x1, vi x2, vi x3] [vi s0] (z_tab (ts, te, tt, b1, b2, b3, b4, b5, b6) ++ t_l (ts, te, tt, b1, b2, b3, b4, b5, b6), t_s (ts, te, tt, b1, b2, b3, b4, b5, b6), I, J) h
set_option maxRecDepth 8000 in
theorem b202_111 {x1 x2 x3 s0 : Int} (h : (inR s0) ∧ ((s0 = (8 : Int) → Cl sc d 190 [vr 1835] (z_cfg t, I, J) (z_k sc d mt_202 false 117 [vr 1835, vi x1, vi x2, vi x3] [] Q)) ∧ (¬ s0 = (8 : Int) → Go sc d mt_202 128 [vr 1835, vi x1, vi x2, vi x3] [] (z_cfg t, I, J) Q))) : Go sc d mt_202 111 [vr 1835, vi x1, vi x2, vi x3] [vi s0] (z_cfg t, I, J) Q := by
  obtain ⟨ts, te, tt, b1, b2, b3, b4, b5, b6⟩ := t
  · exact z_sound (f := false) (cuts := [14, 42, 67, 128]) 300 111 [vr 1835, vi x1, vi x2, vi x3] [vi s0] (z_tab (ts, te, tt, b1, b2, b3, b4, b5, b6) ++ t_l (ts, te, tt, b1, b2, b3, b4, b5, b6), t_s (ts, te, tt, b1, b2, b3, b4, b5, b6), I, J) (show (inR s0) ∧ (inR 8) ∧ ((s0 = (8 : Int) → Cl sc d 190 [vr 1835] (z_cfg (ts, te, tt, b1, b2, b3, b4, b5, b6), I, J) (z_k sc d mt_202 false 117 [vr 1835, vi x1, vi x2, vi x3] [] Q)) ∧ (¬ s0 = (8 : Int) → Go sc d mt_202 128 [vr 1835, vi x1, vi x2, vi x3] [] (z_cfg (ts, te, tt, b1, b2, b3, b4, b5, b6), I, J) Q)) from ⟨h.1, ⟨⟨by decide, by decide⟩, ⟨fun c0 => (h.2.1 c0), fun c0 => (h.2.2 c0)⟩⟩⟩)
set_option maxRecDepth 8000 in
theorem b202_120 {x1 x2 x3 : Int} (h : Cl sc d 197 [vr 1835, vi 1, vi 99] (z_cfg t, I, J) (z_k sc d mt_202 false 124 [vr 1835, vi x1, vi x2, vi x3] [] Q)) : Go sc d mt_202 120 [vr 1835, vi x1, vi x2, vi x3] [] (z_cfg t, I, J) Q := by
  obtain ⟨ts, te, tt, b1, b2, b3, b4, b5, b6⟩ := t
  · exact z_sound (f := false) (cuts := [14, 42, 67, 128]) 300 120 [vr 1835, vi x1, vi x2, vi x3] [] (z_tab (ts, te, tt, b1, b2, b3, b4, b5, b6) ++ t_l (ts, te, tt, b1, b2, b3, b4, b5, b6), t_s (ts, te, tt, b1, b2, b3, b4, b5, b6), I, J) h
set_option maxRecDepth 8000 in
theorem b202_127 {x1 x2 x3 s0 : Int} (h : Go sc d mt_202 128 [vr 1835, vi x1, vi x2, vi s0] [] (z_cfg t, I, J) Q) : Go sc d mt_202 127 [vr 1835, vi x1, vi x2, vi x3] [vi s0] (z_cfg t, I, J) Q := by
  obtain ⟨ts, te, tt, b1, b2, b3, b4, b5, b6⟩ := t
  · exact z_sound (f := false) (cuts := [14, 42, 67, 128]) 300 127 [vr 1835, vi x1, vi x2, vi x3] [vi s0] (z_tab (ts, te, tt, b1, b2, b3, b4, b5, b6) ++ t_l (ts, te, tt, b1, b2, b3, b4, b5, b6), t_s (ts, te, tt, b1, b2, b3, b4, b5, b6), I, J) h
set_option maxRecDepth 8000 in
theorem b202_128 {x1 x2 x3 : Int} (h : Cl sc d 198 [vr 1835] (z_cfg t, I, J) (z_k sc d mt_202 false 129 [vr 1835, vi x1, vi x2, vi x3] [] Q)) : Go sc d mt_202 128 [vr 1835, vi x1, vi x2, vi x3] [] (z_cfg t, I, J) Q := by
  obtain ⟨ts, te, tt, b1, b2, b3, b4, b5, b6⟩ := t
  · exact z_sound (f := false) (cuts := [14, 42, 67, 128]) 300 128 [vr 1835, vi x1, vi x2, vi x3] [] (z_tab (ts, te, tt, b1, b2, b3, b4, b5, b6) ++ t_l (ts, te, tt, b1, b2, b3, b4, b5, b6), t_s (ts, te, tt, b1, b2, b3, b4, b5, b6), I, J) h
set_option maxRecDepth 8000 in
theorem b202_132 {x1 x2 x3 s0 : Int} (h : (inR s0) ∧ ((s0 = 0 → Q (.inl none) (z_cfg t, I, J)) ∧ (¬ s0 = 0 → (0 ≤ I 1835 30 ∧ I 1835 30 < 8) ∧ (Q (.inl none) (z_cfg t, z_u (z_u (z_u (z_u I 2292 (I 1835 30).toNat x1) 2228 (I 1835 30).toNat x2) 2260 (I 1835 30).toNat x3) 1835 30 ((I 1835 30) + 1), J))))) : Go sc d mt_202 132 [vr 1835, vi x1, vi x2, vi x3] [vi s0] (z_cfg t, I, J) Q := by
  obtain ⟨ts, te, tt, b1, b2, b3, b4, b5, b6⟩ := t
  · exact z_sound (f := false) (cuts := [14, 42, 67, 128]) 300 132 [vr 1835, vi x1, vi x2, vi x3] [vi s0] (z_tab (ts, te, tt, b1, b2, b3, b4, b5, b6) ++ t_l (ts, te, tt, b1, b2, b3, b4, b5, b6), t_s (ts, te, tt, b1, b2, b3, b4, b5, b6), I, J) (show (inR s0) ∧ ((s0 = 0 → Q (.inl none) (z_cfg (ts, te, tt, b1, b2, b3, b4, b5, b6), I, J)) ∧ (¬ s0 = 0 → (0 ≤ I 1835 30 ∧ I 1835 30 < 8) ∧ (0 ≤ I 1835 30 ∧ I 1835 30 < 8) ∧ (0 ≤ I 1835 30 ∧ I 1835 30 < 8) ∧ Q (.inl none) (z_cfg (ts, te, tt, b1, b2, b3, b4, b5, b6), z_u (z_u (z_u (z_u I 2292 (I 1835 30).toNat x1) 2228 (I 1835 30).toNat x2) 2260 (I 1835 30).toNat x3) 1835 30 ((I 1835 30) + 1), J))) from ⟨h.1, ⟨fun c0 => (h.2.1 c0), fun c0 => ⟨(h.2.2 c0).1, ⟨(h.2.2 c0).1, ⟨(h.2.2 c0).1, (h.2.2 c0).2⟩⟩⟩⟩⟩)
theorem c202 {w : zW} {K : zR → zW → Prop} (hd : 1 ≤ d) (h : ∀ d', d = d' + 1 → Go sc d' mt_202 0 [vr 1835, vn, vn, vn] [] w K) : Cl sc d 202 [vr 1835] w K := Cl_of rfl hd h
/-! FerryHallModel named (I)I -/
set_option maxRecDepth 8000 in
theorem b203_0 {x1 : Int} (h : Go sc d mt_203 2 [vr 1835, vi x1, vi 0] [] (z_cfg t, I, J) Q) : Go sc d mt_203 0 [vr 1835, vi x1, vn] [] (z_cfg t, I, J) Q := by
  obtain ⟨ts, te, tt, b1, b2, b3, b4, b5, b6⟩ := t
  · exact z_sound (f := false) (cuts := [2]) 300 0 [vr 1835, vi x1, vn] [] (z_tab (ts, te, tt, b1, b2, b3, b4, b5, b6) ++ t_l (ts, te, tt, b1, b2, b3, b4, b5, b6), t_s (ts, te, tt, b1, b2, b3, b4, b5, b6), I, J) h
set_option maxRecDepth 8000 in
theorem b203_2 {x1 x2 : Int} (h : (inR x2) ∧ ((inR (I 1835 30)) ∧ ((x2 < I 1835 30 → (0 ≤ x2 ∧ x2 < 8) ∧ ((inR (I 2292 (x2).toNat)) ∧ ((inR x1) ∧ ((I 2292 (x2).toNat = x1 → Q (.inl (some (vi x2))) (z_cfg t, I, J)) ∧ (¬ I 2292 (x2).toNat = x1 → Go sc d mt_203 2 [vr 1835, vi x1, vi (x2 + 1)] [] (z_cfg t, I, J) Q))))) ∧ (¬ x2 < I 1835 30 → Q (.inl (some (vi (-1)))) (z_cfg t, I, J))))) : Go sc d mt_203 2 [vr 1835, vi x1, vi x2] [] (z_cfg t, I, J) Q := by
  obtain ⟨ts, te, tt, b1, b2, b3, b4, b5, b6⟩ := t
  · exact z_sound (f := false) (cuts := [2]) 300 2 [vr 1835, vi x1, vi x2] [] (z_tab (ts, te, tt, b1, b2, b3, b4, b5, b6) ++ t_l (ts, te, tt, b1, b2, b3, b4, b5, b6), t_s (ts, te, tt, b1, b2, b3, b4, b5, b6), I, J) h
theorem c203 {x1 : Int} {w : zW} {K : zR → zW → Prop} (hd : 1 ≤ d) (h : ∀ d', d = d' + 1 → Go sc d' mt_203 0 [vr 1835, vi x1, vn] [] w K) : Cl sc d 203 [vr 1835, vi x1] w K := Cl_of rfl hd h
/-! FerryHallModel need (I)V -/
set_option maxRecDepth 8000 in
theorem b204_0 {x1 : Int} (h : Cl sc d 198 [vr 1835] (z_cfg t, I, J) (z_k sc d mt_204 false 1 [vr 1835, vi x1] [] Q)) : Go sc d mt_204 0 [vr 1835, vi x1] [] (z_cfg t, I, J) Q := by
  obtain ⟨ts, te, tt, b1, b2, b3, b4, b5, b6⟩ := t
  · exact z_sound (f := false) (cuts := []) 300 0 [vr 1835, vi x1] [] (z_tab (ts, te, tt, b1, b2, b3, b4, b5, b6) ++ t_l (ts, te, tt, b1, b2, b3, b4, b5, b6), t_s (ts, te, tt, b1, b2, b3, b4, b5, b6), I, J) h
set_option maxRecDepth 8000 in
theorem b204_4 {x1 s0 : Int} (h : (inR s0) ∧ ((s0 = 0 → Q (.inl none) (z_cfg t, I, J)) ∧ (¬ s0 = 0 → Cl sc d 194 [vr 1835] (z_cfg t, I, J) (z_k sc d mt_204 false 9 [vr 1835, vi x1] [] Q)))) : Go sc d mt_204 4 [vr 1835, vi x1] [vi s0] (z_cfg t, I, J) Q := by
  obtain ⟨ts, te, tt, b1, b2, b3, b4, b5, b6⟩ := t
  · exact z_sound (f := false) (cuts := []) 300 4 [vr 1835, vi x1] [vi s0] (z_tab (ts, te, tt, b1, b2, b3, b4, b5, b6) ++ t_l (ts, te, tt, b1, b2, b3, b4, b5, b6), t_s (ts, te, tt, b1, b2, b3, b4, b5, b6), I, J) h
set_option maxRecDepth 8000 in
theorem b204_12 {x1 s0 : Int} (h : (inR s0) ∧ ((inR x1) ∧ ((s0 = x1 → Cl sc d 190 [vr 1835] (z_cfg t, I, J) (z_k sc d mt_204 false 17 [vr 1835, vi x1] [] Q)) ∧ (¬ s0 = x1 → Cl sc d 199 [vr 1835, vi 1] (z_cfg t, I, J) (z_k sc d mt_204 false 25 [vr 1835, vi x1] [] Q))))) : Go sc d mt_204 12 [vr 1835, vi x1] [vi s0] (z_cfg t, I, J) Q := by
  obtain ⟨ts, te, tt, b1, b2, b3, b4, b5, b6⟩ := t
  · exact z_sound (f := false) (cuts := []) 300 12 [vr 1835, vi x1] [vi s0] (z_tab (ts, te, tt, b1, b2, b3, b4, b5, b6) ++ t_l (ts, te, tt, b1, b2, b3, b4, b5, b6), t_s (ts, te, tt, b1, b2, b3, b4, b5, b6), I, J) h
set_option maxRecDepth 8000 in
theorem b204_20 {x1 : Int} (h : Q (.inl none) (z_cfg t, I, J)) : Go sc d mt_204 20 [vr 1835, vi x1] [] (z_cfg t, I, J) Q := by
  obtain ⟨ts, te, tt, b1, b2, b3, b4, b5, b6⟩ := t
  · exact z_sound (f := false) (cuts := []) 300 20 [vr 1835, vi x1] [] (z_tab (ts, te, tt, b1, b2, b3, b4, b5, b6) ++ t_l (ts, te, tt, b1, b2, b3, b4, b5, b6), t_s (ts, te, tt, b1, b2, b3, b4, b5, b6), I, J) h
set_option maxRecDepth 8000 in
theorem b204_28 {x1 : Int} (h : Q (.inl none) (z_cfg t, I, J)) : Go sc d mt_204 28 [vr 1835, vi x1] [] (z_cfg t, I, J) Q := by
  obtain ⟨ts, te, tt, b1, b2, b3, b4, b5, b6⟩ := t
  · exact z_sound (f := false) (cuts := []) 300 28 [vr 1835, vi x1] [] (z_tab (ts, te, tt, b1, b2, b3, b4, b5, b6) ++ t_l (ts, te, tt, b1, b2, b3, b4, b5, b6), t_s (ts, te, tt, b1, b2, b3, b4, b5, b6), I, J) h
theorem c204 {x1 : Int} {w : zW} {K : zR → zW → Prop} (hd : 1 ≤ d) (h : ∀ d', d = d' + 1 → Go sc d' mt_204 0 [vr 1835, vi x1] [] w K) : Cl sc d 204 [vr 1835, vi x1] w K := Cl_of rfl hd h
/-! FerryHallModel boat ()V -/
set_option maxRecDepth 8000 in
theorem b205_0 (h : (inR (I 1835 31)) ∧ ((I 1835 31 = (2 : Int) → Cl sc d 199 [vr 1835, vi 2] (z_cfg t, I, J) (z_k sc d mt_205 false 10 [vr 1835, vn, vn, vn] [] Q)) ∧ (¬ I 1835 31 = (2 : Int) → Go sc d mt_205 13 [vr 1835, vn, vn, vn] [] (z_cfg t, I, J) Q))) : Go sc d mt_205 0 [vr 1835, vn, vn, vn] [] (z_cfg t, I, J) Q := by
  obtain ⟨ts, te, tt, b1, b2, b3, b4, b5, b6⟩ := t
  · exact z_sound (f := false) (cuts := [13]) 300 0 [vr 1835, vn, vn, vn] [] (z_tab (ts, te, tt, b1, b2, b3, b4, b5, b6) ++ t_l (ts, te, tt, b1, b2, b3, b4, b5, b6), t_s (ts, te, tt, b1, b2, b3, b4, b5, b6), I, J) (show (inR (I 1835 31)) ∧ (inR 2) ∧ ((I 1835 31 = (2 : Int) → Cl sc d 199 [vr 1835, vi 2] (z_cfg (ts, te, tt, b1, b2, b3, b4, b5, b6), I, J) (z_k sc d mt_205 false 10 [vr 1835, vn, vn, vn] [] Q)) ∧ (¬ I 1835 31 = (2 : Int) → Go sc d mt_205 13 [vr 1835, vn, vn, vn] [] (z_cfg (ts, te, tt, b1, b2, b3, b4, b5, b6), I, J) Q)) from ⟨h.1, ⟨⟨by decide, by decide⟩, ⟨fun c0 => (h.2.1 c0), fun c0 => (h.2.2 c0)⟩⟩⟩)
set_option maxRecDepth 8000 in
theorem b205_13 (h : Cl sc d 198 [vr 1835] (z_cfg t, I, J) (z_k sc d mt_205 false 14 [vr 1835, vn, vn, vn] [] Q)) : Go sc d mt_205 13 [vr 1835, vn, vn, vn] [] (z_cfg t, I, J) Q := by
  obtain ⟨ts, te, tt, b1, b2, b3, b4, b5, b6⟩ := t
  · exact z_sound (f := false) (cuts := [13]) 300 13 [vr 1835, vn, vn, vn] [] (z_tab (ts, te, tt, b1, b2, b3, b4, b5, b6) ++ t_l (ts, te, tt, b1, b2, b3, b4, b5, b6), t_s (ts, te, tt, b1, b2, b3, b4, b5, b6), I, J) h
set_option maxRecDepth 8000 in
theorem b205_17 {s0 : Int} (h : (inR s0) ∧ ((s0 = 0 → Q (.inl none) (z_cfg t, I, J)) ∧ (¬ s0 = 0 → Cl sc d 190 [vr 1835] (z_cfg t, I, J) (z_k sc d mt_205 false 22 [vr 1835, vn, vn, vn] [] Q)))) : Go sc d mt_205 17 [vr 1835, vn, vn, vn] [vi s0] (z_cfg t, I, J) Q := by
  obtain ⟨ts, te, tt, b1, b2, b3, b4, b5, b6⟩ := t
  · exact z_sound (f := false) (cuts := [13]) 300 17 [vr 1835, vn, vn, vn] [vi s0] (z_tab (ts, te, tt, b1, b2, b3, b4, b5, b6) ++ t_l (ts, te, tt, b1, b2, b3, b4, b5, b6), t_s (ts, te, tt, b1, b2, b3, b4, b5, b6), I, J) h
set_option maxRecDepth 8000 in
theorem b205_25 (h : Cl sc d 204 [vr 1835, vi 9] (z_cfg t, I, J) (z_k sc d mt_205 false 28 [vr 1835, vn, vn, vn] [] Q)) : Go sc d mt_205 25 [vr 1835, vn, vn, vn] [] (z_cfg t, I, J) Q := by
  obtain ⟨ts, te, tt, b1, b2, b3, b4, b5, b6⟩ := t
  · exact z_sound (f := false) (cuts := [13]) 300 25 [vr 1835, vn, vn, vn] [] (z_tab (ts, te, tt, b1, b2, b3, b4, b5, b6) ++ t_l (ts, te, tt, b1, b2, b3, b4, b5, b6), t_s (ts, te, tt, b1, b2, b3, b4, b5, b6), I, J) h
set_option maxRecDepth 8000 in
theorem b205_31 (h : Cl sc d 197 [vr 1835, vi 1, vi 8] (z_cfg t, I, J) (z_k sc d mt_205 false 35 [vr 1835, vn, vn, vn] [] Q)) : Go sc d mt_205 31 [vr 1835, vn, vn, vn] [] (z_cfg t, I, J) Q := by
  obtain ⟨ts, te, tt, b1, b2, b3, b4, b5, b6⟩ := t
  · exact z_sound (f := false) (cuts := [13]) 300 31 [vr 1835, vn, vn, vn] [] (z_tab (ts, te, tt, b1, b2, b3, b4, b5, b6) ++ t_l (ts, te, tt, b1, b2, b3, b4, b5, b6), t_s (ts, te, tt, b1, b2, b3, b4, b5, b6), I, J) h
set_option maxRecDepth 8000 in
theorem b205_38 {s0 : Int} (h : Cl sc d 204 [vr 1835, vi 10] (z_cfg t, I, J) (z_k sc d mt_205 false 42 [vr 1835, vi s0, vn, vn] [] Q)) : Go sc d mt_205 38 [vr 1835, vn, vn, vn] [vi s0] (z_cfg t, I, J) Q := by
  obtain ⟨ts, te, tt, b1, b2, b3, b4, b5, b6⟩ := t
  · exact z_sound (f := false) (cuts := [13]) 300 38 [vr 1835, vn, vn, vn] [vi s0] (z_tab (ts, te, tt, b1, b2, b3, b4, b5, b6) ++ t_l (ts, te, tt, b1, b2, b3, b4, b5, b6), t_s (ts, te, tt, b1, b2, b3, b4, b5, b6), I, J) h
set_option maxRecDepth 8000 in
theorem b205_45 {x1 : Int} (h : Cl sc d 197 [vr 1835, vi 0, vi 999] (z_cfg t, I, J) (z_k sc d mt_205 false 50 [vr 1835, vi x1, vn, vn] [] Q)) : Go sc d mt_205 45 [vr 1835, vi x1, vn, vn] [] (z_cfg t, I, J) Q := by
  obtain ⟨ts, te, tt, b1, b2, b3, b4, b5, b6⟩ := t
  · exact z_sound (f := false) (cuts := [13]) 300 45 [vr 1835, vi x1, vn, vn] [] (z_tab (ts, te, tt, b1, b2, b3, b4, b5, b6) ++ t_l (ts, te, tt, b1, b2, b3, b4, b5, b6), t_s (ts, te, tt, b1, b2, b3, b4, b5, b6), I, J) h
set_option maxRecDepth 8000 in
theorem b205_53 {x1 s0 : Int} (h : Cl sc d 204 [vr 1835, vi 11] (z_cfg t, I, J) (z_k sc d mt_205 false 57 [vr 1835, vi x1, vi s0, vn] [] Q)) : Go sc d mt_205 53 [vr 1835, vi x1, vn, vn] [vi s0] (z_cfg t, I, J) Q := by
  obtain ⟨ts, te, tt, b1, b2, b3, b4, b5, b6⟩ := t
  · exact z_sound (f := false) (cuts := [13]) 300 53 [vr 1835, vi x1, vn, vn] [vi s0] (z_tab (ts, te, tt, b1, b2, b3, b4, b5, b6) ++ t_l (ts, te, tt, b1, b2, b3, b4, b5, b6), t_s (ts, te, tt, b1, b2, b3, b4, b5, b6), I, J) h
set_option maxRecDepth 8000 in
theorem b205_60 {x1 x2 : Int} (h : Cl sc d 206 [vr 1835, vi (-1)] (z_cfg t, I, J) (z_k sc d mt_205 false 62 [vr 1835, vi x1, vi x2, vn] [] Q)) : Go sc d mt_205 60 [vr 1835, vi x1, vi x2, vn] [] (z_cfg t, I, J) Q := by
  obtain ⟨ts, te, tt, b1, b2, b3, b4, b5, b6⟩ := t
  · exact z_sound (f := false) (cuts := [13]) 300 60 [vr 1835, vi x1, vi x2, vn] [] (z_tab (ts, te, tt, b1, b2, b3, b4, b5, b6) ++ t_l (ts, te, tt, b1, b2, b3, b4, b5, b6), t_s (ts, te, tt, b1, b2, b3, b4, b5, b6), I, J) h
set_option maxRecDepth 8000 in
theorem b205_65 {x1 x2 s0 : Int} (h : Cl sc d 198 [vr 1835] (z_cfg t, I, J) (z_k sc d mt_205 false 67 [vr 1835, vi x1, vi x2, vi s0] [] Q)) : Go sc d mt_205 65 [vr 1835, vi x1, vi x2, vn] [vi s0] (z_cfg t, I, J) Q := by
  obtain ⟨ts, te, tt, b1, b2, b3, b4, b5, b6⟩ := t
  · exact z_sound (f := false) (cuts := [13]) 300 65 [vr 1835, vi x1, vi x2, vn] [vi s0] (z_tab (ts, te, tt, b1, b2, b3, b4, b5, b6) ++ t_l (ts, te, tt, b1, b2, b3, b4, b5, b6), t_s (ts, te, tt, b1, b2, b3, b4, b5, b6), I, J) h
set_option maxRecDepth 8000 in
theorem b205_70 {x1 x2 x3 s0 : Int} (h : (inR s0) ∧ ((s0 = 0 → Q (.inl none) (z_cfg t, I, J)) ∧ (¬ s0 = 0 → (0 ≤ I 1835 31 ∧ I 1835 31 < 2) ∧ (Q (.inl none) (z_cfg t, z_u (z_u (z_u (z_u I 2324 (I 1835 31).toNat x1) 2356 (I 1835 31).toNat x2) 2388 (I 1835 31).toNat x3) 1835 31 ((I 1835 31) + 1), J))))) : Go sc d mt_205 70 [vr 1835, vi x1, vi x2, vi x3] [vi s0] (z_cfg t, I, J) Q := by
  obtain ⟨ts, te, tt, b1, b2, b3, b4, b5, b6⟩ := t
  · exact z_sound (f := false) (cuts := [13]) 300 70 [vr 1835, vi x1, vi x2, vi x3] [vi s0] (z_tab (ts, te, tt, b1, b2, b3, b4, b5, b6) ++ t_l (ts, te, tt, b1, b2, b3, b4, b5, b6), t_s (ts, te, tt, b1, b2, b3, b4, b5, b6), I, J) (show (inR s0) ∧ ((s0 = 0 → Q (.inl none) (z_cfg (ts, te, tt, b1, b2, b3, b4, b5, b6), I, J)) ∧ (¬ s0 = 0 → (0 ≤ I 1835 31 ∧ I 1835 31 < 2) ∧ (0 ≤ I 1835 31 ∧ I 1835 31 < 2) ∧ (0 ≤ I 1835 31 ∧ I 1835 31 < 2) ∧ Q (.inl none) (z_cfg (ts, te, tt, b1, b2, b3, b4, b5, b6), z_u (z_u (z_u (z_u I 2324 (I 1835 31).toNat x1) 2356 (I 1835 31).toNat x2) 2388 (I 1835 31).toNat x3) 1835 31 ((I 1835 31) + 1), J))) from ⟨h.1, ⟨fun c0 => (h.2.1 c0), fun c0 => ⟨(h.2.2 c0).1, ⟨(h.2.2 c0).1, ⟨(h.2.2 c0).1, (h.2.2 c0).2⟩⟩⟩⟩⟩)
theorem c205 {w : zW} {K : zR → zW → Prop} (hd : 1 ≤ d) (h : ∀ d', d = d' + 1 → Go sc d' mt_205 0 [vr 1835, vn, vn, vn] [] w K) : Cl sc d 205 [vr 1835] w K := Cl_of rfl hd h
/-! FerryHallModel shore (I)I -/
set_option maxRecDepth 8000 in
theorem b206_0 {x1 : Int} (h : Cl sc d 198 [vr 1835] (z_cfg t, I, J) (z_k sc d mt_206 false 1 [vr 1835, vi x1, vn] [] Q)) : Go sc d mt_206 0 [vr 1835, vi x1, vn] [] (z_cfg t, I, J) Q := by
  obtain ⟨ts, te, tt, b1, b2, b3, b4, b5, b6⟩ := t
  · exact z_sound (f := false) (cuts := [73]) 300 0 [vr 1835, vi x1, vn] [] (z_tab (ts, te, tt, b1, b2, b3, b4, b5, b6) ++ t_l (ts, te, tt, b1, b2, b3, b4, b5, b6), t_s (ts, te, tt, b1, b2, b3, b4, b5, b6), I, J) h
set_option maxRecDepth 8000 in
theorem b206_4 {x1 s0 : Int} (h : (inR s0) ∧ ((s0 = 0 → Q (.inl (some (vi 0))) (z_cfg t, I, J)) ∧ (¬ s0 = 0 → (inR (I 1835 23)) ∧ ((I 1835 23 = (2 : Int) → (inR (I 1835 25)) ∧ (((3 : Int) < I 1835 25 → Cl sc d 199 [vr 1835, vi 2] (z_cfg t, I, J) (z_k sc d mt_206 false 35 [vr 1835, vi x1, vn] [] Q)) ∧ (¬ (3 : Int) < I 1835 25 → (inR (I 1835 26)) ∧ ((inR (I 1835 29)) ∧ ((I 1835 26 < I 1835 29 → (inR x1) ∧ ((I 1835 26 = x1 → Cl sc d 199 [vr 1835, vi 5] (z_cfg t, I, J) (z_k sc d mt_206 false 70 [vr 1835, vi x1, vn] [] Q)) ∧ (¬ I 1835 26 = x1 → Go sc d mt_206 73 [vr 1835, vi x1, vn] [] (z_cfg t, I, J) Q))) ∧ (¬ I 1835 26 < I 1835 29 → Cl sc d 199 [vr 1835, vi 4] (z_cfg t, I, J) (z_k sc d mt_206 false 54 [vr 1835, vi x1, vn] [] Q))))))) ∧ (¬ I 1835 23 = (2 : Int) → Cl sc d 199 [vr 1835, vi 1] (z_cfg t, I, J) (z_k sc d mt_206 false 19 [vr 1835, vi x1, vn] [] Q)))))) : Go sc d mt_206 4 [vr 1835, vi x1, vn] [vi s0] (z_cfg t, I, J) Q := by
  obtain ⟨ts, te, tt, b1, b2, b3, b4, b5, b6⟩ := t
  · exact z_sound (f := false) (cuts := [73]) 300 4 [vr 1835, vi x1, vn] [vi s0] (z_tab (ts, te, tt, b1, b2, b3, b4, b5, b6) ++ t_l (ts, te, tt, b1, b2, b3, b4, b5, b6), t_s (ts, te, tt, b1, b2, b3, b4, b5, b6), I, J) (show (inR s0) ∧ ((s0 = 0 → Q (.inl (some (vi 0))) (z_cfg (ts, te, tt, b1, b2, b3, b4, b5, b6), I, J)) ∧ (¬ s0 = 0 → (inR (I 1835 23)) ∧ (inR 2) ∧ ((I 1835 23 = (2 : Int) → (inR (I 1835 25)) ∧ (inR 3) ∧ (((3 : Int) < I 1835 25 → Cl sc d 199 [vr 1835, vi 2] (z_cfg (ts, te, tt, b1, b2, b3, b4, b5, b6), I, J) (z_k sc d mt_206 false 35 [vr 1835, vi x1, vn] [] Q)) ∧ (¬ (3 : Int) < I 1835 25 → (inR (I 1835 26)) ∧ (inR (I 1835 29)) ∧ ((I 1835 26 < I 1835 29 → (inR (I 1835 26)) ∧ (inR x1) ∧ ((I 1835 26 = x1 → Cl sc d 199 [vr 1835, vi 5] (z_cfg (ts, te, tt, b1, b2, b3, b4, b5, b6), I, J) (z_k sc d mt_206 false 70 [vr 1835, vi x1, vn] [] Q)) ∧ (¬ I 1835 26 = x1 → Go sc d mt_206 73 [vr 1835, vi x1, vn] [] (z_cfg (ts, te, tt, b1, b2, b3, b4, b5, b6), I, J) Q))) ∧ (¬ I 1835 26 < I 1835 29 → Cl sc d 199 [vr 1835, vi 4] (z_cfg (ts, te, tt, b1, b2, b3, b4, b5, b6), I, J) (z_k sc d mt_206 false 54 [vr 1835, vi x1, vn] [] Q)))))) ∧ (¬ I 1835 23 = (2 : Int) → Cl sc d 199 [vr 1835, vi 1] (z_cfg (ts, te, tt, b1, b2, b3, b4, b5, b6), I, J) (z_k sc d mt_206 false 19 [vr 1835, vi x1, vn] [] Q))))) from ⟨h.1, ⟨fun c0 => (h.2.1 c0), fun c0 => ⟨(h.2.2 c0).1, ⟨⟨by decide, by decide⟩, ⟨fun c1 => ⟨((h.2.2 c0).2.1 c1).1, ⟨⟨by decide, by decide⟩, ⟨fun c2 => (((h.2.2 c0).2.1 c1).2.1 c2), fun c2 => ⟨(((h.2.2 c0).2.1 c1).2.2 c2).1, ⟨(((h.2.2 c0).2.1 c1).2.2 c2).2.1, ⟨fun c3 => ⟨(((h.2.2 c0).2.1 c1).2.2 c2).1, ⟨((((h.2.2 c0).2.1 c1).2.2 c2).2.2.1 c3).1, ⟨fun c4 => (((((h.2.2 c0).2.1 c1).2.2 c2).2.2.1 c3).2.1 c4), fun c4 => (((((h.2.2 c0).2.1 c1).2.2 c2).2.2.1 c3).2.2 c4)⟩⟩⟩, fun c3 => ((((h.2.2 c0).2.1 c1).2.2 c2).2.2.2 c3)⟩⟩⟩⟩⟩⟩, fun c1 => ((h.2.2 c0).2.2 c1)⟩⟩⟩⟩⟩)
set_option maxRecDepth 8000 in
theorem b206_22 {x1 : Int} (h : Go sc d mt_206 73 [vr 1835, vi x1, vn] [] (z_cfg t, I, J) Q) : Go sc d mt_206 22 [vr 1835, vi x1, vn] [] (z_cfg t, I, J) Q := by
  obtain ⟨ts, te, tt, b1, b2, b3, b4, b5, b6⟩ := t
  · exact z_sound (f := false) (cuts := [73]) 300 22 [vr 1835, vi x1, vn] [] (z_tab (ts, te, tt, b1, b2, b3, b4, b5, b6) ++ t_l (ts, te, tt, b1, b2, b3, b4, b5, b6), t_s (ts, te, tt, b1, b2, b3, b4, b5, b6), I, J) h
set_option maxRecDepth 8000 in
theorem b206_38 {x1 : Int} (h : Go sc d mt_206 73 [vr 1835, vi x1, vn] [] (z_cfg t, I, J) Q) : Go sc d mt_206 38 [vr 1835, vi x1, vn] [] (z_cfg t, I, J) Q := by
  obtain ⟨ts, te, tt, b1, b2, b3, b4, b5, b6⟩ := t
  · exact z_sound (f := false) (cuts := [73]) 300 38 [vr 1835, vi x1, vn] [] (z_tab (ts, te, tt, b1, b2, b3, b4, b5, b6) ++ t_l (ts, te, tt, b1, b2, b3, b4, b5, b6), t_s (ts, te, tt, b1, b2, b3, b4, b5, b6), I, J) h
set_option maxRecDepth 8000 in
theorem b206_57 {x1 : Int} (h : Go sc d mt_206 73 [vr 1835, vi x1, vn] [] (z_cfg t, I, J) Q) : Go sc d mt_206 57 [vr 1835, vi x1, vn] [] (z_cfg t, I, J) Q := by
  obtain ⟨ts, te, tt, b1, b2, b3, b4, b5, b6⟩ := t
  · exact z_sound (f := false) (cuts := [73]) 300 57 [vr 1835, vi x1, vn] [] (z_tab (ts, te, tt, b1, b2, b3, b4, b5, b6) ++ t_l (ts, te, tt, b1, b2, b3, b4, b5, b6), t_s (ts, te, tt, b1, b2, b3, b4, b5, b6), I, J) h
set_option maxRecDepth 8000 in
theorem b206_73 {x1 : Int} (h : Cl sc d 198 [vr 1835] (z_cfg t, I, J) (z_k sc d mt_206 false 79 [vr 1835, vi x1, vi (I 1835 26)] [] Q)) : Go sc d mt_206 73 [vr 1835, vi x1, vn] [] (z_cfg t, I, J) Q := by
  obtain ⟨ts, te, tt, b1, b2, b3, b4, b5, b6⟩ := t
  · exact z_sound (f := false) (cuts := [73]) 300 73 [vr 1835, vi x1, vn] [] (z_tab (ts, te, tt, b1, b2, b3, b4, b5, b6) ++ t_l (ts, te, tt, b1, b2, b3, b4, b5, b6), t_s (ts, te, tt, b1, b2, b3, b4, b5, b6), I, J) h
set_option maxRecDepth 8000 in
theorem b206_82 {x1 x2 s0 : Int} (h : (inR s0) ∧ ((s0 = 0 → Q (.inl (some (vi x2))) (z_cfg t, I, J)) ∧ (¬ s0 = 0 → Cl sc d 190 [vr 1835] (z_cfg t, I, J) (z_k sc d mt_206 false 86 [vr 1835, vi x1, vi x2] [] Q)))) : Go sc d mt_206 82 [vr 1835, vi x1, vi x2] [vi s0] (z_cfg t, I, J) Q := by
  obtain ⟨ts, te, tt, b1, b2, b3, b4, b5, b6⟩ := t
  · exact z_sound (f := false) (cuts := [73]) 300 82 [vr 1835, vi x1, vi x2] [vi s0] (z_tab (ts, te, tt, b1, b2, b3, b4, b5, b6) ++ t_l (ts, te, tt, b1, b2, b3, b4, b5, b6), t_s (ts, te, tt, b1, b2, b3, b4, b5, b6), I, J) h
set_option maxRecDepth 8000 in
theorem b206_89 {x1 x2 : Int} (h : Q (.inl (some (vi x2))) (z_cfg t, I, J)) : Go sc d mt_206 89 [vr 1835, vi x1, vi x2] [] (z_cfg t, I, J) Q := by
  obtain ⟨ts, te, tt, b1, b2, b3, b4, b5, b6⟩ := t
  · exact z_sound (f := false) (cuts := [73]) 300 89 [vr 1835, vi x1, vi x2] [] (z_tab (ts, te, tt, b1, b2, b3, b4, b5, b6) ++ t_l (ts, te, tt, b1, b2, b3, b4, b5, b6), t_s (ts, te, tt, b1, b2, b3, b4, b5, b6), I, J) h
theorem c206 {x1 : Int} {w : zW} {K : zR → zW → Prop} (hd : 1 ≤ d) (h : ∀ d', d = d' + 1 → Go sc d' mt_206 0 [vr 1835, vi x1, vn] [] w K) : Cl sc d 206 [vr 1835, vi x1] w K := Cl_of rfl hd h
/-! FerryHallModel water (Z)V -/
set_option maxRecDepth 8000 in
theorem b207_0 {x1 : Int} (h : Cl sc d 190 [vr 1835] (z_cfg t, I, J) (z_k sc d mt_207 false 1 [vr 1835, vi x1, vn, vn] [] Q)) : Go sc d mt_207 0 [vr 1835, vi x1, vn, vn] [] (z_cfg t, I, J) Q := by
  obtain ⟨ts, te, tt, b1, b2, b3, b4, b5, b6⟩ := t
  · exact z_sound (f := false) (cuts := []) 300 0 [vr 1835, vi x1, vn, vn] [] (z_tab (ts, te, tt, b1, b2, b3, b4, b5, b6) ++ t_l (ts, te, tt, b1, b2, b3, b4, b5, b6), t_s (ts, te, tt, b1, b2, b3, b4, b5, b6), I, J) h
set_option maxRecDepth 8000 in
theorem b207_4 {x1 : Int} (h : Cl sc d 206 [vr 1835, vi (-1)] (z_cfg t, I, J) (z_k sc d mt_207 false 6 [vr 1835, vi x1, vn, vn] [] Q)) : Go sc d mt_207 4 [vr 1835, vi x1, vn, vn] [] (z_cfg t, I, J) Q := by
  obtain ⟨ts, te, tt, b1, b2, b3, b4, b5, b6⟩ := t
  · exact z_sound (f := false) (cuts := []) 300 4 [vr 1835, vi x1, vn, vn] [] (z_tab (ts, te, tt, b1, b2, b3, b4, b5, b6) ++ t_l (ts, te, tt, b1, b2, b3, b4, b5, b6), t_s (ts, te, tt, b1, b2, b3, b4, b5, b6), I, J) h
set_option maxRecDepth 8000 in
theorem b207_9 {x1 s0 : Int} (h : Cl sc d 206 [vr 1835, vi s0] (z_cfg t, I, J) (z_k sc d mt_207 false 12 [vr 1835, vi x1, vi s0, vn] [] Q)) : Go sc d mt_207 9 [vr 1835, vi x1, vn, vn] [vi s0] (z_cfg t, I, J) Q := by
  obtain ⟨ts, te, tt, b1, b2, b3, b4, b5, b6⟩ := t
  · exact z_sound (f := false) (cuts := []) 300 9 [vr 1835, vi x1, vn, vn] [vi s0] (z_tab (ts, te, tt, b1, b2, b3, b4, b5, b6) ++ t_l (ts, te, tt, b1, b2, b3, b4, b5, b6), t_s (ts, te, tt, b1, b2, b3, b4, b5, b6), I, J) h
set_option maxRecDepth 8000 in
theorem b207_15 {x1 x2 s0 : Int} (h : Cl sc d 198 [vr 1835] (z_cfg t, I, J) (z_k sc d mt_207 false 17 [vr 1835, vi x1, vi x2, vi s0] [] Q)) : Go sc d mt_207 15 [vr 1835, vi x1, vi x2, vn] [vi s0] (z_cfg t, I, J) Q := by
  obtain ⟨ts, te, tt, b1, b2, b3, b4, b5, b6⟩ := t
  · exact z_sound (f := false) (cuts := []) 300 15 [vr 1835, vi x1, vi x2, vn] [vi s0] (z_tab (ts, te, tt, b1, b2, b3, b4, b5, b6) ++ t_l (ts, te, tt, b1, b2, b3, b4, b5, b6), t_s (ts, te, tt, b1, b2, b3, b4, b5, b6), I, J) h
set_option maxRecDepth 8000 in
theorem b207_20 {x1 x2 x3 s0 : Int} (h : (inR s0) ∧ ((s0 = 0 → Q (.inl none) (z_cfg t, I, J)) ∧ (¬ s0 = 0 → (0 ≤ (4 * x2) + x3 ∧ (4 * x2) + x3 < 16) ∧ ((inR x1) ∧ ((x1 = 0 → Q (.inl none) (z_cfg t, z_u (z_u I 1835 37 1) 2550 ((4 * x2) + x3).toNat (znz 1), J)) ∧ (¬ x1 = 0 → (0 ≤ (4 * x3) + x2 ∧ (4 * x3) + x2 < 16) ∧ Q (.inl none) (z_cfg t, z_u (z_u (z_u I 1835 37 1) 2550 ((4 * x2) + x3).toNat (znz 1)) 2550 ((4 * x3) + x2).toNat (znz 1), J))))))) : Go sc d mt_207 20 [vr 1835, vi x1, vi x2, vi x3] [vi s0] (z_cfg t, I, J) Q := by
  obtain ⟨ts, te, tt, b1, b2, b3, b4, b5, b6⟩ := t
  · exact z_sound (f := false) (cuts := []) 300 20 [vr 1835, vi x1, vi x2, vi x3] [vi s0] (z_tab (ts, te, tt, b1, b2, b3, b4, b5, b6) ++ t_l (ts, te, tt, b1, b2, b3, b4, b5, b6), t_s (ts, te, tt, b1, b2, b3, b4, b5, b6), I, J) (show (inR s0) ∧ ((s0 = 0 → Q (.inl none) (z_cfg (ts, te, tt, b1, b2, b3, b4, b5, b6), I, J)) ∧ (¬ s0 = 0 → ((1 : Int) = 0 ∨ (1 : Int) = 1) ∧ (0 ≤ (4 * x2) + x3 ∧ (4 * x2) + x3 < 16) ∧ (inR x1) ∧ ((x1 = 0 → Q (.inl none) (z_cfg (ts, te, tt, b1, b2, b3, b4, b5, b6), z_u (z_u I 1835 37 1) 2550 ((4 * x2) + x3).toNat (znz 1), J)) ∧ (¬ x1 = 0 → (0 ≤ (4 * x3) + x2 ∧ (4 * x3) + x2 < 16) ∧ Q (.inl none) (z_cfg (ts, te, tt, b1, b2, b3, b4, b5, b6), z_u (z_u (z_u I 1835 37 1) 2550 ((4 * x2) + x3).toNat (znz 1)) 2550 ((4 * x3) + x2).toNat (znz 1), J))))) from ⟨h.1, ⟨fun c0 => (h.2.1 c0), fun c0 => ⟨by decide, ⟨(h.2.2 c0).1, ⟨(h.2.2 c0).2.1, ⟨fun c1 => ((h.2.2 c0).2.2.1 c1), fun c1 => ⟨((h.2.2 c0).2.2.2 c1).1, ((h.2.2 c0).2.2.2 c1).2⟩⟩⟩⟩⟩⟩⟩)
theorem c207 {x1 : Int} {w : zW} {K : zR → zW → Prop} (hd : 1 ≤ d) (h : ∀ d', d = d' + 1 → Go sc d' mt_207 0 [vr 1835, vi x1, vn, vn] [] w K) : Cl sc d 207 [vr 1835, vi x1] w K := Cl_of rfl hd h
/-! FerryHallModel lamp ()V -/
set_option maxRecDepth 8000 in
theorem b208_0 (h : (inR (I 1835 33)) ∧ ((I 1835 33 = ((-1) : Int) → Go sc d mt_208 13 [vr 1835, vn] [] (z_cfg t, I, J) Q) ∧ (¬ I 1835 33 = ((-1) : Int) → Cl sc d 199 [vr 1835, vi 5] (z_cfg t, I, J) (z_k sc d mt_208 false 10 [vr 1835, vn] [] Q)))) : Go sc d mt_208 0 [vr 1835, vn] [] (z_cfg t, I, J) Q := by
  obtain ⟨ts, te, tt, b1, b2, b3, b4, b5, b6⟩ := t
  · exact z_sound (f := false) (cuts := [13]) 300 0 [vr 1835, vn] [] (z_tab (ts, te, tt, b1, b2, b3, b4, b5, b6) ++ t_l (ts, te, tt, b1, b2, b3, b4, b5, b6), t_s (ts, te, tt, b1, b2, b3, b4, b5, b6), I, J) (show (inR (I 1835 33)) ∧ (inR (-1)) ∧ ((I 1835 33 = ((-1) : Int) → Go sc d mt_208 13 [vr 1835, vn] [] (z_cfg (ts, te, tt, b1, b2, b3, b4, b5, b6), I, J) Q) ∧ (¬ I 1835 33 = ((-1) : Int) → Cl sc d 199 [vr 1835, vi 5] (z_cfg (ts, te, tt, b1, b2, b3, b4, b5, b6), I, J) (z_k sc d mt_208 false 10 [vr 1835, vn] [] Q))) from ⟨h.1, ⟨⟨by decide, by decide⟩, ⟨fun c0 => (h.2.1 c0), fun c0 => (h.2.2 c0)⟩⟩⟩)
set_option maxRecDepth 8000 in
theorem b208_13 (h : Cl sc d 198 [vr 1835] (z_cfg t, I, J) (z_k sc d mt_208 false 14 [vr 1835, vn] [] Q)) : Go sc d mt_208 13 [vr 1835, vn] [] (z_cfg t, I, J) Q := by
  obtain ⟨ts, te, tt, b1, b2, b3, b4, b5, b6⟩ := t
  · exact z_sound (f := false) (cuts := [13]) 300 13 [vr 1835, vn] [] (z_tab (ts, te, tt, b1, b2, b3, b4, b5, b6) ++ t_l (ts, te, tt, b1, b2, b3, b4, b5, b6), t_s (ts, te, tt, b1, b2, b3, b4, b5, b6), I, J) h
set_option maxRecDepth 8000 in
theorem b208_17 {s0 : Int} (h : (inR s0) ∧ ((s0 = 0 → Q (.inl none) (z_cfg t, I, J)) ∧ (¬ s0 = 0 → Cl sc d 190 [vr 1835] (z_cfg t, I, J) (z_k sc d mt_208 false 22 [vr 1835, vn] [] Q)))) : Go sc d mt_208 17 [vr 1835, vn] [vi s0] (z_cfg t, I, J) Q := by
  obtain ⟨ts, te, tt, b1, b2, b3, b4, b5, b6⟩ := t
  · exact z_sound (f := false) (cuts := [13]) 300 17 [vr 1835, vn] [vi s0] (z_tab (ts, te, tt, b1, b2, b3, b4, b5, b6) ++ t_l (ts, te, tt, b1, b2, b3, b4, b5, b6), t_s (ts, te, tt, b1, b2, b3, b4, b5, b6), I, J) h
set_option maxRecDepth 8000 in
theorem b208_25 (h : Cl sc d 204 [vr 1835, vi 11] (z_cfg t, I, J) (z_k sc d mt_208 false 28 [vr 1835, vn] [] Q)) : Go sc d mt_208 25 [vr 1835, vn] [] (z_cfg t, I, J) Q := by
  obtain ⟨ts, te, tt, b1, b2, b3, b4, b5, b6⟩ := t
  · exact z_sound (f := false) (cuts := [13]) 300 25 [vr 1835, vn] [] (z_tab (ts, te, tt, b1, b2, b3, b4, b5, b6) ++ t_l (ts, te, tt, b1, b2, b3, b4, b5, b6), t_s (ts, te, tt, b1, b2, b3, b4, b5, b6), I, J) h
set_option maxRecDepth 8000 in
theorem b208_31 (h : Cl sc d 206 [vr 1835, vi (-1)] (z_cfg t, I, J) (z_k sc d mt_208 false 33 [vr 1835, vn] [] Q)) : Go sc d mt_208 31 [vr 1835, vn] [] (z_cfg t, I, J) Q := by
  obtain ⟨ts, te, tt, b1, b2, b3, b4, b5, b6⟩ := t
  · exact z_sound (f := false) (cuts := [13]) 300 31 [vr 1835, vn] [] (z_tab (ts, te, tt, b1, b2, b3, b4, b5, b6) ++ t_l (ts, te, tt, b1, b2, b3, b4, b5, b6), t_s (ts, te, tt, b1, b2, b3, b4, b5, b6), I, J) h
set_option maxRecDepth 8000 in
theorem b208_36 {s0 : Int} (h : Cl sc d 198 [vr 1835] (z_cfg t, I, J) (z_k sc d mt_208 false 38 [vr 1835, vi s0] [] Q)) : Go sc d mt_208 36 [vr 1835, vn] [vi s0] (z_cfg t, I, J) Q := by
  obtain ⟨ts, te, tt, b1, b2, b3, b4, b5, b6⟩ := t
  · exact z_sound (f := false) (cuts := [13]) 300 36 [vr 1835, vn] [vi s0] (z_tab (ts, te, tt, b1, b2, b3, b4, b5, b6) ++ t_l (ts, te, tt, b1, b2, b3, b4, b5, b6), t_s (ts, te, tt, b1, b2, b3, b4, b5, b6), I, J) h
set_option maxRecDepth 8000 in
theorem b208_41 {x1 s0 : Int} (h : (inR s0) ∧ ((s0 = 0 → Q (.inl none) (z_cfg t, I, J)) ∧ (¬ s0 = 0 → Q (.inl none) (z_cfg t, z_u I 1835 33 x1, J)))) : Go sc d mt_208 41 [vr 1835, vi x1] [vi s0] (z_cfg t, I, J) Q := by
  obtain ⟨ts, te, tt, b1, b2, b3, b4, b5, b6⟩ := t
  · exact z_sound (f := false) (cuts := [13]) 300 41 [vr 1835, vi x1] [vi s0] (z_tab (ts, te, tt, b1, b2, b3, b4, b5, b6) ++ t_l (ts, te, tt, b1, b2, b3, b4, b5, b6), t_s (ts, te, tt, b1, b2, b3, b4, b5, b6), I, J) h
theorem c208 {w : zW} {K : zR → zW → Prop} (hd : 1 ≤ d) (h : ∀ d', d = d' + 1 → Go sc d' mt_208 0 [vr 1835, vn] [] w K) : Cl sc d 208 [vr 1835] w K := Cl_of rfl hd h
/-! FerryHallModel never ()V -/
set_option maxRecDepth 8000 in
theorem b209_0 (h : (inR (I 1835 32)) ∧ ((I 1835 32 = (12 : Int) → Cl sc d 199 [vr 1835, vi 2] (z_cfg t, I, J) (z_k sc d mt_209 false 11 [vr 1835, vn, vn, vn] [] Q)) ∧ (¬ I 1835 32 = (12 : Int) → Go sc d mt_209 14 [vr 1835, vn, vn, vn] [] (z_cfg t, I, J) Q))) : Go sc d mt_209 0 [vr 1835, vn, vn, vn] [] (z_cfg t, I, J) Q := by
  obtain ⟨ts, te, tt, b1, b2, b3, b4, b5, b6⟩ := t
  · exact z_sound (f := false) (cuts := [14, 88, 89]) 300 0 [vr 1835, vn, vn, vn] [] (z_tab (ts, te, tt, b1, b2, b3, b4, b5, b6) ++ t_l (ts, te, tt, b1, b2, b3, b4, b5, b6), t_s (ts, te, tt, b1, b2, b3, b4, b5, b6), I, J) (show (inR (I 1835 32)) ∧ (inR 12) ∧ ((I 1835 32 = (12 : Int) → Cl sc d 199 [vr 1835, vi 2] (z_cfg (ts, te, tt, b1, b2, b3, b4, b5, b6), I, J) (z_k sc d mt_209 false 11 [vr 1835, vn, vn, vn] [] Q)) ∧ (¬ I 1835 32 = (12 : Int) → Go sc d mt_209 14 [vr 1835, vn, vn, vn] [] (z_cfg (ts, te, tt, b1, b2, b3, b4, b5, b6), I, J) Q)) from ⟨h.1, ⟨⟨by decide, by decide⟩, ⟨fun c0 => (h.2.1 c0), fun c0 => (h.2.2 c0)⟩⟩⟩)
set_option maxRecDepth 8000 in
theorem b209_14 (h : Cl sc d 198 [vr 1835] (z_cfg t, I, J) (z_k sc d mt_209 false 15 [vr 1835, vn, vn, vn] [] Q)) : Go sc d mt_209 14 [vr 1835, vn, vn, vn] [] (z_cfg t, I, J) Q := by
  obtain ⟨ts, te, tt, b1, b2, b3, b4, b5, b6⟩ := t
  · exact z_sound (f := false) (cuts := [14, 88, 89]) 300 14 [vr 1835, vn, vn, vn] [] (z_tab (ts, te, tt, b1, b2, b3, b4, b5, b6) ++ t_l (ts, te, tt, b1, b2, b3, b4, b5, b6), t_s (ts, te, tt, b1, b2, b3, b4, b5, b6), I, J) h
set_option maxRecDepth 8000 in
theorem b209_18 {s0 : Int} (h : (inR s0) ∧ ((s0 = 0 → Q (.inl none) (z_cfg t, I, J)) ∧ (¬ s0 = 0 → Cl sc d 190 [vr 1835] (z_cfg t, I, J) (z_k sc d mt_209 false 23 [vr 1835, vn, vn, vn] [] Q)))) : Go sc d mt_209 18 [vr 1835, vn, vn, vn] [vi s0] (z_cfg t, I, J) Q := by
  obtain ⟨ts, te, tt, b1, b2, b3, b4, b5, b6⟩ := t
  · exact z_sound (f := false) (cuts := [14, 88, 89]) 300 18 [vr 1835, vn, vn, vn] [vi s0] (z_tab (ts, te, tt, b1, b2, b3, b4, b5, b6) ++ t_l (ts, te, tt, b1, b2, b3, b4, b5, b6), t_s (ts, te, tt, b1, b2, b3, b4, b5, b6), I, J) h
set_option maxRecDepth 8000 in
theorem b209_26 (h : Cl sc d 210 [vr 1835] (z_cfg t, I, J) (z_k sc d mt_209 false 27 [vr 1835, vn, vn, vn] [] Q)) : Go sc d mt_209 26 [vr 1835, vn, vn, vn] [] (z_cfg t, I, J) Q := by
  obtain ⟨ts, te, tt, b1, b2, b3, b4, b5, b6⟩ := t
  · exact z_sound (f := false) (cuts := [14, 88, 89]) 300 26 [vr 1835, vn, vn, vn] [] (z_tab (ts, te, tt, b1, b2, b3, b4, b5, b6) ++ t_l (ts, te, tt, b1, b2, b3, b4, b5, b6), t_s (ts, te, tt, b1, b2, b3, b4, b5, b6), I, J) h
set_option maxRecDepth 8000 in
theorem b209_30 {s0 : Int} (h : Cl sc d 194 [vr 1835] (z_cfg t, I, J) (z_k sc d mt_209 false 34 [vr 1835, vi s0, vi (-1), vn] [] Q)) : Go sc d mt_209 30 [vr 1835, vn, vn, vn] [vi s0] (z_cfg t, I, J) Q := by
  obtain ⟨ts, te, tt, b1, b2, b3, b4, b5, b6⟩ := t
  · exact z_sound (f := false) (cuts := [14, 88, 89]) 300 30 [vr 1835, vn, vn, vn] [vi s0] (z_tab (ts, te, tt, b1, b2, b3, b4, b5, b6) ++ t_l (ts, te, tt, b1, b2, b3, b4, b5, b6), t_s (ts, te, tt, b1, b2, b3, b4, b5, b6), I, J) h
set_option maxRecDepth 8000 in
theorem b209_37 {x1 x2 s0 : Int} (h : Cl sc d 198 [vr 1835] (z_cfg t, I, J) (z_k sc d mt_209 false 39 [vr 1835, vi x1, vi x2, vi s0] [] Q)) : Go sc d mt_209 37 [vr 1835, vi x1, vi x2, vn] [vi s0] (z_cfg t, I, J) Q := by
  obtain ⟨ts, te, tt, b1, b2, b3, b4, b5, b6⟩ := t
  · exact z_sound (f := false) (cuts := [14, 88, 89]) 300 37 [vr 1835, vi x1, vi x2, vn] [vi s0] (z_tab (ts, te, tt, b1, b2, b3, b4, b5, b6) ++ t_l (ts, te, tt, b1, b2, b3, b4, b5, b6), t_s (ts, te, tt, b1, b2, b3, b4, b5, b6), I, J) h
set_option maxRecDepth 8000 in
theorem b209_42 {x1 x2 x3 s0 : Int} (h : (inR s0) ∧ ((s0 = 0 → Go sc d mt_209 89 [vr 1835, vi x1, vi x2, vi x3] [] (z_cfg t, I, J) Q) ∧ (¬ s0 = 0 → (inR x3) ∧ ((x3 < (11 : Int) → Go sc d mt_209 89 [vr 1835, vi x1, vi x2, vi x3] [] (z_cfg t, I, J) Q) ∧ (¬ x3 < (11 : Int) → ((13 : Int) < x3 → Go sc d mt_209 89 [vr 1835, vi x1, vi x2, vi x3] [] (z_cfg t, I, J) Q) ∧ (¬ (13 : Int) < x3 → Cl sc d 190 [vr 1835] (z_cfg t, I, J) (z_k sc d mt_209 false 58 [vr 1835, vi x1, vi x2, vi x3] [] Q))))))) : Go sc d mt_209 42 [vr 1835, vi x1, vi x2, vi x3] [vi s0] (z_cfg t, I, J) Q := by
  obtain ⟨ts, te, tt, b1, b2, b3, b4, b5, b6⟩ := t
  · exact z_sound (f := false) (cuts := [14, 88, 89]) 300 42 [vr 1835, vi x1, vi x2, vi x3] [vi s0] (z_tab (ts, te, tt, b1, b2, b3, b4, b5, b6) ++ t_l (ts, te, tt, b1, b2, b3, b4, b5, b6), t_s (ts, te, tt, b1, b2, b3, b4, b5, b6), I, J) (show (inR s0) ∧ ((s0 = 0 → Go sc d mt_209 89 [vr 1835, vi x1, vi x2, vi x3] [] (z_cfg (ts, te, tt, b1, b2, b3, b4, b5, b6), I, J) Q) ∧ (¬ s0 = 0 → (inR x3) ∧ (inR 11) ∧ ((x3 < (11 : Int) → Go sc d mt_209 89 [vr 1835, vi x1, vi x2, vi x3] [] (z_cfg (ts, te, tt, b1, b2, b3, b4, b5, b6), I, J) Q) ∧ (¬ x3 < (11 : Int) → (inR x3) ∧ (inR 13) ∧ (((13 : Int) < x3 → Go sc d mt_209 89 [vr 1835, vi x1, vi x2, vi x3] [] (z_cfg (ts, te, tt, b1, b2, b3, b4, b5, b6), I, J) Q) ∧ (¬ (13 : Int) < x3 → Cl sc d 190 [vr 1835] (z_cfg (ts, te, tt, b1, b2, b3, b4, b5, b6), I, J) (z_k sc d mt_209 false 58 [vr 1835, vi x1, vi x2, vi x3] [] Q))))))) from ⟨h.1, ⟨fun c0 => (h.2.1 c0), fun c0 => ⟨(h.2.2 c0).1, ⟨⟨by decide, by decide⟩, ⟨fun c1 => ((h.2.2 c0).2.1 c1), fun c1 => ⟨(h.2.2 c0).1, ⟨⟨by decide, by decide⟩, ⟨fun c2 => (((h.2.2 c0).2.2 c1).1 c2), fun c2 => (((h.2.2 c0).2.2 c1).2 c2)⟩⟩⟩⟩⟩⟩⟩⟩)
set_option maxRecDepth 8000 in
theorem b209_61 {x1 x2 x3 : Int} (h : (inR x3) ∧ ((x3 = (12 : Int) → Go sc d mt_209 88 [vr 1835, vi x1, vi x2, vi x3] [vi (-2)] (z_cfg t, I, J) Q) ∧ (¬ x3 = (12 : Int) → (x3 = (13 : Int) → Go sc d mt_209 88 [vr 1835, vi x1, vi x2, vi x3] [vi (-3)] (z_cfg t, I, J) Q) ∧ (¬ x3 = (13 : Int) → Cl sc d 206 [vr 1835, vi (-1)] (z_cfg t, I, J) (z_k sc d mt_209 false 85 [vr 1835, vi x1, vi x2, vi x3] [] Q))))) : Go sc d mt_209 61 [vr 1835, vi x1, vi x2, vi x3] [] (z_cfg t, I, J) Q := by
  obtain ⟨ts, te, tt, b1, b2, b3, b4, b5, b6⟩ := t
  · exact z_sound (f := false) (cuts := [14, 88, 89]) 300 61 [vr 1835, vi x1, vi x2, vi x3] [] (z_tab (ts, te, tt, b1, b2, b3, b4, b5, b6) ++ t_l (ts, te, tt, b1, b2, b3, b4, b5, b6), t_s (ts, te, tt, b1, b2, b3, b4, b5, b6), I, J) (show (inR x3) ∧ (inR 12) ∧ ((x3 = (12 : Int) → Go sc d mt_209 88 [vr 1835, vi x1, vi x2, vi x3] [vi (-2)] (z_cfg (ts, te, tt, b1, b2, b3, b4, b5, b6), I, J) Q) ∧ (¬ x3 = (12 : Int) → (inR x3) ∧ (inR 13) ∧ ((x3 = (13 : Int) → Go sc d mt_209 88 [vr 1835, vi x1, vi x2, vi x3] [vi (-3)] (z_cfg (ts, te, tt, b1, b2, b3, b4, b5, b6), I, J) Q) ∧ (¬ x3 = (13 : Int) → Cl sc d 206 [vr 1835, vi (-1)] (z_cfg (ts, te, tt, b1, b2, b3, b4, b5, b6), I, J) (z_k sc d mt_209 false 85 [vr 1835, vi x1, vi x2, vi x3] [] Q))))) from ⟨h.1, ⟨⟨by decide, by decide⟩, ⟨fun c0 => (h.2.1 c0), fun c0 => ⟨h.1, ⟨⟨by decide, by decide⟩, ⟨fun c1 => ((h.2.2 c0).1 c1), fun c1 => ((h.2.2 c0).2 c1)⟩⟩⟩⟩⟩⟩)
set_option maxRecDepth 8000 in
theorem b209_88 {x1 x2 x3 s0 : Int} (h : Go sc d mt_209 89 [vr 1835, vi x1, vi s0, vi x3] [] (z_cfg t, I, J) Q) : Go sc d mt_209 88 [vr 1835, vi x1, vi x2, vi x3] [vi s0] (z_cfg t, I, J) Q := by
  obtain ⟨ts, te, tt, b1, b2, b3, b4, b5, b6⟩ := t
  · exact z_sound (f := false) (cuts := [14, 88, 89]) 300 88 [vr 1835, vi x1, vi x2, vi x3] [vi s0] (z_tab (ts, te, tt, b1, b2, b3, b4, b5, b6) ++ t_l (ts, te, tt, b1, b2, b3, b4, b5, b6), t_s (ts, te, tt, b1, b2, b3, b4, b5, b6), I, J) h
set_option maxRecDepth 8000 in
theorem b209_89 {x1 x2 x3 : Int} (h : Cl sc d 198 [vr 1835] (z_cfg t, I, J) (z_k sc d mt_209 false 90 [vr 1835, vi x1, vi x2, vi x3] [] Q)) : Go sc d mt_209 89 [vr 1835, vi x1, vi x2, vi x3] [] (z_cfg t, I, J) Q := by
  obtain ⟨ts, te, tt, b1, b2, b3, b4, b5, b6⟩ := t
  · exact z_sound (f := false) (cuts := [14, 88, 89]) 300 89 [vr 1835, vi x1, vi x2, vi x3] [] (z_tab (ts, te, tt, b1, b2, b3, b4, b5, b6) ++ t_l (ts, te, tt, b1, b2, b3, b4, b5, b6), t_s (ts, te, tt, b1, b2, b3, b4, b5, b6), I, J) h
set_option maxRecDepth 8000 in
theorem b209_93 {x1 x2 x3 s0 : Int} (h : (inR s0) ∧ ((s0 = 0 → Q (.inl none) (z_cfg t, I, J)) ∧ (¬ s0 = 0 → (0 ≤ I 1835 32 ∧ I 1835 32 < 12) ∧ (Q (.inl none) (z_cfg t, z_u (z_u (z_u I 2420 (I 1835 32).toNat x2) 2452 (I 1835 32).toNat x1) 1835 32 ((I 1835 32) + 1), J))))) : Go sc d mt_209 93 [vr 1835, vi x1, vi x2, vi x3] [vi s0] (z_cfg t, I, J) Q := by
  obtain ⟨ts, te, tt, b1, b2, b3, b4, b5, b6⟩ := t
  · exact z_sound (f := false) (cuts := [14, 88, 89]) 300 93 [vr 1835, vi x1, vi x2, vi x3] [vi s0] (z_tab (ts, te, tt, b1, b2, b3, b4, b5, b6) ++ t_l (ts, te, tt, b1, b2, b3, b4, b5, b6), t_s (ts, te, tt, b1, b2, b3, b4, b5, b6), I, J) (show (inR s0) ∧ ((s0 = 0 → Q (.inl none) (z_cfg (ts, te, tt, b1, b2, b3, b4, b5, b6), I, J)) ∧ (¬ s0 = 0 → (0 ≤ I 1835 32 ∧ I 1835 32 < 12) ∧ (0 ≤ I 1835 32 ∧ I 1835 32 < 12) ∧ Q (.inl none) (z_cfg (ts, te, tt, b1, b2, b3, b4, b5, b6), z_u (z_u (z_u I 2420 (I 1835 32).toNat x2) 2452 (I 1835 32).toNat x1) 1835 32 ((I 1835 32) + 1), J))) from ⟨h.1, ⟨fun c0 => (h.2.1 c0), fun c0 => ⟨(h.2.2 c0).1, ⟨(h.2.2 c0).1, (h.2.2 c0).2⟩⟩⟩⟩)
theorem c209 {w : zW} {K : zR → zW → Prop} (hd : 1 ≤ d) (h : ∀ d', d = d' + 1 → Go sc d' mt_209 0 [vr 1835, vn, vn, vn] [] w K) : Cl sc d 209 [vr 1835] w K := Cl_of rfl hd h
/-! FerryHallModel expression ()I -/
set_option maxRecDepth 8000 in
theorem b210_0 (h : Cl sc d 198 [vr 1835] (z_cfg t, I, J) (z_k sc d mt_210 false 6 [vr 1835, vi (I 1835 34), vn, vn] [] Q)) : Go sc d mt_210 0 [vr 1835, vn, vn, vn] [] (z_cfg t, I, J) Q := by
  obtain ⟨ts, te, tt, b1, b2, b3, b4, b5, b6⟩ := t
  · exact z_sound (f := false) (cuts := [35, 63, 75, 90, 133, 167, 192, 210, 232, 265, 288, 352, 354, 357, 377]) 300 0 [vr 1835, vn, vn, vn] [] (z_tab (ts, te, tt, b1, b2, b3, b4, b5, b6) ++ t_l (ts, te, tt, b1, b2, b3, b4, b5, b6), t_s (ts, te, tt, b1, b2, b3, b4, b5, b6), I, J) h
set_option maxRecDepth 8000 in
theorem b210_9 {x1 s0 : Int} (h : (inR s0) ∧ ((s0 = 0 → Q (.inl (some (vi x1))) (z_cfg t, I, J)) ∧ (¬ s0 = 0 → Cl sc d 211 [vr 1835] (z_cfg t, z_u (z_u I 1835 35 0) 1835 36 0, J) (z_k sc d mt_210 false 25 [vr 1835, vi x1, vn, vn] [] Q)))) : Go sc d mt_210 9 [vr 1835, vi x1, vn, vn] [vi s0] (z_cfg t, I, J) Q := by
  obtain ⟨ts, te, tt, b1, b2, b3, b4, b5, b6⟩ := t
  · exact z_sound (f := false) (cuts := [35, 63, 75, 90, 133, 167, 192, 210, 232, 265, 288, 352, 354, 357, 377]) 300 9 [vr 1835, vi x1, vn, vn] [vi s0] (z_tab (ts, te, tt, b1, b2, b3, b4, b5, b6) ++ t_l (ts, te, tt, b1, b2, b3, b4, b5, b6), t_s (ts, te, tt, b1, b2, b3, b4, b5, b6), I, J) h
set_option maxRecDepth 8000 in
theorem b210_28 {x1 : Int} (h : Cl sc d 212 [vr 1835, vi 1] (z_cfg t, I, J) (z_k sc d mt_210 false 30 [vr 1835, vi x1, vn, vn] [] Q)) : Go sc d mt_210 28 [vr 1835, vi x1, vn, vn] [] (z_cfg t, I, J) Q := by
  obtain ⟨ts, te, tt, b1, b2, b3, b4, b5, b6⟩ := t
  · exact z_sound (f := false) (cuts := [35, 63, 75, 90, 133, 167, 192, 210, 232, 265, 288, 352, 354, 357, 377]) 300 28 [vr 1835, vi x1, vn, vn] [] (z_tab (ts, te, tt, b1, b2, b3, b4, b5, b6) ++ t_l (ts, te, tt, b1, b2, b3, b4, b5, b6), t_s (ts, te, tt, b1, b2, b3, b4, b5, b6), I, J) h
set_option maxRecDepth 8000 in
theorem b210_33 {x1 : Int} (h : Go sc d mt_210 35 [vr 1835, vi x1, vi 1, vn] [] (z_cfg t, I, J) Q) : Go sc d mt_210 33 [vr 1835, vi x1, vn, vn] [] (z_cfg t, I, J) Q := by
  obtain ⟨ts, te, tt, b1, b2, b3, b4, b5, b6⟩ := t
  · exact z_sound (f := false) (cuts := [35, 63, 75, 90, 133, 167, 192, 210, 232, 265, 288, 352, 354, 357, 377]) 300 33 [vr 1835, vi x1, vn, vn] [] (z_tab (ts, te, tt, b1, b2, b3, b4, b5, b6) ++ t_l (ts, te, tt, b1, b2, b3, b4, b5, b6), t_s (ts, te, tt, b1, b2, b3, b4, b5, b6), I, J) h
set_option maxRecDepth 8000 in
theorem b210_35 {x1 x2 : Int} {v3 : zV} (h : (inR x2) ∧ ((x2 = 0 → Go sc d mt_210 357 [vr 1835, vi x1, vi x2, v3] [] (z_cfg t, I, J) Q) ∧ (¬ x2 = 0 → Cl sc d 198 [vr 1835] (z_cfg t, I, J) (z_k sc d mt_210 false 40 [vr 1835, vi x1, vi x2, v3] [] Q)))) : Go sc d mt_210 35 [vr 1835, vi x1, vi x2, v3] [] (z_cfg t, I, J) Q := by
  obtain ⟨ts, te, tt, b1, b2, b3, b4, b5, b6⟩ := t
  · exact z_sound (f := false) (cuts := [35, 63, 75, 90, 133, 167, 192, 210, 232, 265, 288, 352, 354, 357, 377]) 300 35 [vr 1835, vi x1, vi x2, v3] [] (z_tab (ts, te, tt, b1, b2, b3, b4, b5, b6) ++ t_l (ts, te, tt, b1, b2, b3, b4, b5, b6), t_s (ts, te, tt, b1, b2, b3, b4, b5, b6), I, J) h
set_option maxRecDepth 8000 in
theorem b210_43 {x1 x2 s0 : Int} {v3 : zV} (h : (inR s0) ∧ ((s0 = 0 → Go sc d mt_210 357 [vr 1835, vi x1, vi x2, v3] [] (z_cfg t, I, J) Q) ∧ (¬ s0 = 0 → Cl sc d 194 [vr 1835] (z_cfg t, I, J) (z_k sc d mt_210 false 47 [vr 1835, vi x1, vi x2, v3] [] Q)))) : Go sc d mt_210 43 [vr 1835, vi x1, vi x2, v3] [vi s0] (z_cfg t, I, J) Q := by
  obtain ⟨ts, te, tt, b1, b2, b3, b4, b5, b6⟩ := t
  · exact z_sound (f := false) (cuts := [35, 63, 75, 90, 133, 167, 192, 210, 232, 265, 288, 352, 354, 357, 377]) 300 43 [vr 1835, vi x1, vi x2, v3] [vi s0] (z_tab (ts, te, tt, b1, b2, b3, b4, b5, b6) ++ t_l (ts, te, tt, b1, b2, b3, b4, b5, b6), t_s (ts, te, tt, b1, b2, b3, b4, b5, b6), I, J) h
set_option maxRecDepth 8000 in
theorem b210_50 {x1 x2 s0 : Int} {v3 : zV} (h : (inR s0) ∧ ((s0 = (14 : Int) → Go sc d mt_210 63 [vr 1835, vi x1, vi x2, vi s0] [] (z_cfg t, I, J) Q) ∧ (¬ s0 = (14 : Int) → (s0 = (15 : Int) → Go sc d mt_210 63 [vr 1835, vi x1, vi x2, vi s0] [] (z_cfg t, I, J) Q) ∧ (¬ s0 = (15 : Int) → Cl sc d 200 [vr 1835, vi 60] (z_cfg t, I, J) (z_k sc d mt_210 false 118 [vr 1835, vi x1, vi x2, vi s0] [] Q))))) : Go sc d mt_210 50 [vr 1835, vi x1, vi x2, v3] [vi s0] (z_cfg t, I, J) Q := by
  obtain ⟨ts, te, tt, b1, b2, b3, b4, b5, b6⟩ := t
  · exact z_sound (f := false) (cuts := [35, 63, 75, 90, 133, 167, 192, 210, 232, 265, 288, 352, 354, 357, 377]) 300 50 [vr 1835, vi x1, vi x2, v3] [vi s0] (z_tab (ts, te, tt, b1, b2, b3, b4, b5, b6) ++ t_l (ts, te, tt, b1, b2, b3, b4, b5, b6), t_s (ts, te, tt, b1, b2, b3, b4, b5, b6), I, J) (show (inR s0) ∧ (inR 14) ∧ ((s0 = (14 : Int) → Go sc d mt_210 63 [vr 1835, vi x1, vi x2, vi s0] [] (z_cfg (ts, te, tt, b1, b2, b3, b4, b5, b6), I, J) Q) ∧ (¬ s0 = (14 : Int) → (inR s0) ∧ (inR 15) ∧ ((s0 = (15 : Int) → Go sc d mt_210 63 [vr 1835, vi x1, vi x2, vi s0] [] (z_cfg (ts, te, tt, b1, b2, b3, b4, b5, b6), I, J) Q) ∧ (¬ s0 = (15 : Int) → Cl sc d 200 [vr 1835, vi 60] (z_cfg (ts, te, tt, b1, b2, b3, b4, b5, b6), I, J) (z_k sc d mt_210 false 118 [vr 1835, vi x1, vi x2, vi s0] [] Q))))) from ⟨h.1, ⟨⟨by decide, by decide⟩, ⟨fun c0 => (h.2.1 c0), fun c0 => ⟨h.1, ⟨⟨by decide, by decide⟩, ⟨fun c1 => ((h.2.2 c0).1 c1), fun c1 => ((h.2.2 c0).2 c1)⟩⟩⟩⟩⟩⟩)
set_option maxRecDepth 8000 in
theorem b210_63 {x1 x2 x3 : Int} (h : (inR x3) ∧ ((x3 = (14 : Int) → Go sc d mt_210 75 [vr 1835, vi x1, vi x2, vi x3] [vi 2, vr 1835] (z_cfg t, I, J) Q) ∧ (¬ x3 = (14 : Int) → Go sc d mt_210 75 [vr 1835, vi x1, vi x2, vi x3] [vi 1, vr 1835] (z_cfg t, I, J) Q))) : Go sc d mt_210 63 [vr 1835, vi x1, vi x2, vi x3] [] (z_cfg t, I, J) Q := by
  obtain ⟨ts, te, tt, b1, b2, b3, b4, b5, b6⟩ := t
  · exact z_sound (f := false) (cuts := [35, 63, 75, 90, 133, 167, 192, 210, 232, 265, 288, 352, 354, 357, 377]) 300 63 [vr 1835, vi x1, vi x2, vi x3] [] (z_tab (ts, te, tt, b1, b2, b3, b4, b5, b6) ++ t_l (ts, te, tt, b1, b2, b3, b4, b5, b6), t_s (ts, te, tt, b1, b2, b3, b4, b5, b6), I, J) (show (inR x3) ∧ (inR 14) ∧ ((x3 = (14 : Int) → Go sc d mt_210 75 [vr 1835, vi x1, vi x2, vi x3] [vi 2, vr 1835] (z_cfg (ts, te, tt, b1, b2, b3, b4, b5, b6), I, J) Q) ∧ (¬ x3 = (14 : Int) → Go sc d mt_210 75 [vr 1835, vi x1, vi x2, vi x3] [vi 1, vr 1835] (z_cfg (ts, te, tt, b1, b2, b3, b4, b5, b6), I, J) Q)) from ⟨h.1, ⟨⟨by decide, by decide⟩, ⟨fun c0 => (h.2.1 c0), fun c0 => (h.2.2 c0)⟩⟩⟩)
set_option maxRecDepth 8000 in
theorem b210_75 {x1 x2 x3 s0 : Int} (h : Cl sc d 216 [vr 1835, vi s0] (z_cfg t, I, J) (z_k sc d mt_210 false 75 [vr 1835, vi x1, vi x2, vi x3] [] Q)) : Go sc d mt_210 75 [vr 1835, vi x1, vi x2, vi x3] [vi s0, vr 1835] (z_cfg t, I, J) Q := by
  obtain ⟨ts, te, tt, b1, b2, b3, b4, b5, b6⟩ := t
  · exact z_sound (f := false) (cuts := [35, 63, 75, 90, 133, 167, 192, 210, 232, 265, 288, 352, 354, 357, 377]) 300 75 [vr 1835, vi x1, vi x2, vi x3] [vi s0, vr 1835] (z_tab (ts, te, tt, b1, b2, b3, b4, b5, b6) ++ t_l (ts, te, tt, b1, b2, b3, b4, b5, b6), t_s (ts, te, tt, b1, b2, b3, b4, b5, b6), I, J) h
set_option maxRecDepth 8000 in
theorem b210_78 {x1 x2 x3 : Int} (h : (inR x3) ∧ ((x3 = (14 : Int) → Go sc d mt_210 90 [vr 1835, vi x1, vi x2, vi x3] [vi 4, vr 1835] (z_cfg t, I, J) Q) ∧ (¬ x3 = (14 : Int) → Go sc d mt_210 90 [vr 1835, vi x1, vi x2, vi x3] [vi 5, vr 1835] (z_cfg t, I, J) Q))) : Go sc d mt_210 78 [vr 1835, vi x1, vi x2, vi x3] [] (z_cfg t, I, J) Q := by
  obtain ⟨ts, te, tt, b1, b2, b3, b4, b5, b6⟩ := t
  · exact z_sound (f := false) (cuts := [35, 63, 75, 90, 133, 167, 192, 210, 232, 265, 288, 352, 354, 357, 377]) 300 78 [vr 1835, vi x1, vi x2, vi x3] [] (z_tab (ts, te, tt, b1, b2, b3, b4, b5, b6) ++ t_l (ts, te, tt, b1, b2, b3, b4, b5, b6), t_s (ts, te, tt, b1, b2, b3, b4, b5, b6), I, J) (show (inR x3) ∧ (inR 14) ∧ ((x3 = (14 : Int) → Go sc d mt_210 90 [vr 1835, vi x1, vi x2, vi x3] [vi 4, vr 1835] (z_cfg (ts, te, tt, b1, b2, b3, b4, b5, b6), I, J) Q) ∧ (¬ x3 = (14 : Int) → Go sc d mt_210 90 [vr 1835, vi x1, vi x2, vi x3] [vi 5, vr 1835] (z_cfg (ts, te, tt, b1, b2, b3, b4, b5, b6), I, J) Q)) from ⟨h.1, ⟨⟨by decide, by decide⟩, ⟨fun c0 => (h.2.1 c0), fun c0 => (h.2.2 c0)⟩⟩⟩)
set_option maxRecDepth 8000 in
theorem b210_90 {x1 x2 x3 s0 : Int} (h : Cl sc d 213 [vr 1835, vi s0] (z_cfg t, I, J) (z_k sc d mt_210 false 90 [vr 1835, vi x1, vi x2, vi x3] [] Q)) : Go sc d mt_210 90 [vr 1835, vi x1, vi x2, vi x3] [vi s0, vr 1835] (z_cfg t, I, J) Q := by
  obtain ⟨ts, te, tt, b1, b2, b3, b4, b5, b6⟩ := t
  · exact z_sound (f := false) (cuts := [35, 63, 75, 90, 133, 167, 192, 210, 232, 265, 288, 352, 354, 357, 377]) 300 90 [vr 1835, vi x1, vi x2, vi x3] [vi s0, vr 1835] (z_tab (ts, te, tt, b1, b2, b3, b4, b5, b6) ++ t_l (ts, te, tt, b1, b2, b3, b4, b5, b6), t_s (ts, te, tt, b1, b2, b3, b4, b5, b6), I, J) h
set_option maxRecDepth 8000 in
theorem b210_93 {x1 x2 x3 : Int} (h : (0 ≤ I 1835 36 ∧ I 1835 36 < 9) ∧ Cl sc d 190 [vr 1835] (z_cfg t, z_u I 2582 (I 1835 36).toNat (znz 0), J) (z_k sc d mt_210 false 104 [vr 1835, vi x1, vi x2, vi x3] [] Q)) : Go sc d mt_210 93 [vr 1835, vi x1, vi x2, vi x3] [] (z_cfg t, I, J) Q := by
  obtain ⟨ts, te, tt, b1, b2, b3, b4, b5, b6⟩ := t
  · exact z_sound (f := false) (cuts := [35, 63, 75, 90, 133, 167, 192, 210, 232, 265, 288, 352, 354, 357, 377]) 300 93 [vr 1835, vi x1, vi x2, vi x3] [] (z_tab (ts, te, tt, b1, b2, b3, b4, b5, b6) ++ t_l (ts, te, tt, b1, b2, b3, b4, b5, b6), t_s (ts, te, tt, b1, b2, b3, b4, b5, b6), I, J) h
set_option maxRecDepth 8000 in
theorem b210_107 {x1 x2 x3 : Int} (h : Cl sc d 212 [vr 1835, vi 1] (z_cfg t, I, J) (z_k sc d mt_210 false 109 [vr 1835, vi x1, vi x2, vi x3] [] Q)) : Go sc d mt_210 107 [vr 1835, vi x1, vi x2, vi x3] [] (z_cfg t, I, J) Q := by
  obtain ⟨ts, te, tt, b1, b2, b3, b4, b5, b6⟩ := t
  · exact z_sound (f := false) (cuts := [35, 63, 75, 90, 133, 167, 192, 210, 232, 265, 288, 352, 354, 357, 377]) 300 107 [vr 1835, vi x1, vi x2, vi x3] [] (z_tab (ts, te, tt, b1, b2, b3, b4, b5, b6) ++ t_l (ts, te, tt, b1, b2, b3, b4, b5, b6), t_s (ts, te, tt, b1, b2, b3, b4, b5, b6), I, J) h
set_option maxRecDepth 8000 in
theorem b210_112 {x1 x2 x3 : Int} (h : Go sc d mt_210 354 [vr 1835, vi x1, vi x2, vi x3] [] (z_cfg t, I, J) Q) : Go sc d mt_210 112 [vr 1835, vi x1, vi x2, vi x3] [] (z_cfg t, I, J) Q := by
  obtain ⟨ts, te, tt, b1, b2, b3, b4, b5, b6⟩ := t
  · exact z_sound (f := false) (cuts := [35, 63, 75, 90, 133, 167, 192, 210, 232, 265, 288, 352, 354, 357, 377]) 300 112 [vr 1835, vi x1, vi x2, vi x3] [] (z_tab (ts, te, tt, b1, b2, b3, b4, b5, b6) ++ t_l (ts, te, tt, b1, b2, b3, b4, b5, b6), t_s (ts, te, tt, b1, b2, b3, b4, b5, b6), I, J) h
set_option maxRecDepth 8000 in
theorem b210_121 {x1 x2 x3 s0 : Int} (h : (inR s0) ∧ ((s0 = 0 → Cl sc d 200 [vr 1835, vi 61] (z_cfg t, I, J) (z_k sc d mt_210 false 127 [vr 1835, vi x1, vi x2, vi x3] [] Q)) ∧ (¬ s0 = 0 → Go sc d mt_210 133 [vr 1835, vi x1, vi x2, vi x3] [] (z_cfg t, I, J) Q))) : Go sc d mt_210 121 [vr 1835, vi x1, vi x2, vi x3] [vi s0] (z_cfg t, I, J) Q := by
  obtain ⟨ts, te, tt, b1, b2, b3, b4, b5, b6⟩ := t
  · exact z_sound (f := false) (cuts := [35, 63, 75, 90, 133, 167, 192, 210, 232, 265, 288, 352, 354, 357, 377]) 300 121 [vr 1835, vi x1, vi x2, vi x3] [vi s0] (z_tab (ts, te, tt, b1, b2, b3, b4, b5, b6) ++ t_l (ts, te, tt, b1, b2, b3, b4, b5, b6), t_s (ts, te, tt, b1, b2, b3, b4, b5, b6), I, J) h
set_option maxRecDepth 8000 in
theorem b210_130 {x1 x2 x3 s0 : Int} (h : (inR s0) ∧ ((s0 = 0 → Go sc d mt_210 192 [vr 1835, vi x1, vi x2, vi x3] [] (z_cfg t, I, J) Q) ∧ (¬ s0 = 0 → Go sc d mt_210 133 [vr 1835, vi x1, vi x2, vi x3] [] (z_cfg t, I, J) Q))) : Go sc d mt_210 130 [vr 1835, vi x1, vi x2, vi x3] [vi s0] (z_cfg t, I, J) Q := by
  obtain ⟨ts, te, tt, b1, b2, b3, b4, b5, b6⟩ := t
  · exact z_sound (f := false) (cuts := [35, 63, 75, 90, 133, 167, 192, 210, 232, 265, 288, 352, 354, 357, 377]) 300 130 [vr 1835, vi x1, vi x2, vi x3] [vi s0] (z_tab (ts, te, tt, b1, b2, b3, b4, b5, b6) ++ t_l (ts, te, tt, b1, b2, b3, b4, b5, b6), t_s (ts, te, tt, b1, b2, b3, b4, b5, b6), I, J) h
set_option maxRecDepth 8000 in
theorem b210_133 {x1 x2 x3 : Int} (h : (0 ≤ I 1835 36 ∧ I 1835 36 < 9) ∧ ((inR (I 2582 (I 1835 36).toNat)) ∧ ((I 2582 (I 1835 36).toNat = 0 → Cl sc d 216 [vr 1835, vi 4] (z_cfg t, I, J) (z_k sc d mt_210 false 147 [vr 1835, vi x1, vi x2, vi x3] [] Q)) ∧ (¬ I 2582 (I 1835 36).toNat = 0 → Go sc d mt_210 192 [vr 1835, vi x1, vi x2, vi x3] [] (z_cfg t, I, J) Q)))) : Go sc d mt_210 133 [vr 1835, vi x1, vi x2, vi x3] [] (z_cfg t, I, J) Q := by
  obtain ⟨ts, te, tt, b1, b2, b3, b4, b5, b6⟩ := t
  · exact z_sound (f := false) (cuts := [35, 63, 75, 90, 133, 167, 192, 210, 232, 265, 288, 352, 354, 357, 377]) 300 133 [vr 1835, vi x1, vi x2, vi x3] [] (z_tab (ts, te, tt, b1, b2, b3, b4, b5, b6) ++ t_l (ts, te, tt, b1, b2, b3, b4, b5, b6), t_s (ts, te, tt, b1, b2, b3, b4, b5, b6), I, J) h
set_option maxRecDepth 8000 in
theorem b210_150 {x1 x2 x3 : Int} (h : Cl sc d 200 [vr 1835, vi 60] (z_cfg t, I, J) (z_k sc d mt_210 false 154 [vr 1835, vi x1, vi x2, vi x3] [vr 1835] Q)) : Go sc d mt_210 150 [vr 1835, vi x1, vi x2, vi x3] [] (z_cfg t, I, J) Q := by
  obtain ⟨ts, te, tt, b1, b2, b3, b4, b5, b6⟩ := t
  · exact z_sound (f := false) (cuts := [35, 63, 75, 90, 133, 167, 192, 210, 232, 265, 288, 352, 354, 357, 377]) 300 150 [vr 1835, vi x1, vi x2, vi x3] [] (z_tab (ts, te, tt, b1, b2, b3, b4, b5, b6) ++ t_l (ts, te, tt, b1, b2, b3, b4, b5, b6), t_s (ts, te, tt, b1, b2, b3, b4, b5, b6), I, J) h
set_option maxRecDepth 8000 in
theorem b210_157 {x1 x2 x3 s0 : Int} (h : (inR s0) ∧ ((s0 = 0 → Go sc d mt_210 167 [vr 1835, vi x1, vi x2, vi x3] [vi 7, vr 1835] (z_cfg t, I, J) Q) ∧ (¬ s0 = 0 → Go sc d mt_210 167 [vr 1835, vi x1, vi x2, vi x3] [vi 6, vr 1835] (z_cfg t, I, J) Q))) : Go sc d mt_210 157 [vr 1835, vi x1, vi x2, vi x3] [vi s0, vr 1835] (z_cfg t, I, J) Q := by
  obtain ⟨ts, te, tt, b1, b2, b3, b4, b5, b6⟩ := t
  · exact z_sound (f := false) (cuts := [35, 63, 75, 90, 133, 167, 192, 210, 232, 265, 288, 352, 354, 357, 377]) 300 157 [vr 1835, vi x1, vi x2, vi x3] [vi s0, vr 1835] (z_tab (ts, te, tt, b1, b2, b3, b4, b5, b6) ++ t_l (ts, te, tt, b1, b2, b3, b4, b5, b6), t_s (ts, te, tt, b1, b2, b3, b4, b5, b6), I, J) h
set_option maxRecDepth 8000 in
theorem b210_167 {x1 x2 x3 s0 : Int} (h : Cl sc d 213 [vr 1835, vi s0] (z_cfg t, I, J) (z_k sc d mt_210 false 167 [vr 1835, vi x1, vi x2, vi x3] [] Q)) : Go sc d mt_210 167 [vr 1835, vi x1, vi x2, vi x3] [vi s0, vr 1835] (z_cfg t, I, J) Q := by
  obtain ⟨ts, te, tt, b1, b2, b3, b4, b5, b6⟩ := t
  · exact z_sound (f := false) (cuts := [35, 63, 75, 90, 133, 167, 192, 210, 232, 265, 288, 352, 354, 357, 377]) 300 167 [vr 1835, vi x1, vi x2, vi x3] [vi s0, vr 1835] (z_tab (ts, te, tt, b1, b2, b3, b4, b5, b6) ++ t_l (ts, te, tt, b1, b2, b3, b4, b5, b6), t_s (ts, te, tt, b1, b2, b3, b4, b5, b6), I, J) h
set_option maxRecDepth 8000 in
theorem b210_170 {x1 x2 x3 : Int} (h : (0 ≤ I 1835 36 ∧ I 1835 36 < 9) ∧ Cl sc d 190 [vr 1835] (z_cfg t, z_u I 2582 (I 1835 36).toNat (znz 1), J) (z_k sc d mt_210 false 181 [vr 1835, vi x1, vi x2, vi x3] [] Q)) : Go sc d mt_210 170 [vr 1835, vi x1, vi x2, vi x3] [] (z_cfg t, I, J) Q := by
  obtain ⟨ts, te, tt, b1, b2, b3, b4, b5, b6⟩ := t
  · exact z_sound (f := false) (cuts := [35, 63, 75, 90, 133, 167, 192, 210, 232, 265, 288, 352, 354, 357, 377]) 300 170 [vr 1835, vi x1, vi x2, vi x3] [] (z_tab (ts, te, tt, b1, b2, b3, b4, b5, b6) ++ t_l (ts, te, tt, b1, b2, b3, b4, b5, b6), t_s (ts, te, tt, b1, b2, b3, b4, b5, b6), I, J) h
set_option maxRecDepth 8000 in
theorem b210_184 {x1 x2 x3 : Int} (h : Cl sc d 212 [vr 1835, vi 0] (z_cfg t, I, J) (z_k sc d mt_210 false 186 [vr 1835, vi x1, vi x2, vi x3] [] Q)) : Go sc d mt_210 184 [vr 1835, vi x1, vi x2, vi x3] [] (z_cfg t, I, J) Q := by
  obtain ⟨ts, te, tt, b1, b2, b3, b4, b5, b6⟩ := t
  · exact z_sound (f := false) (cuts := [35, 63, 75, 90, 133, 167, 192, 210, 232, 265, 288, 352, 354, 357, 377]) 300 184 [vr 1835, vi x1, vi x2, vi x3] [] (z_tab (ts, te, tt, b1, b2, b3, b4, b5, b6) ++ t_l (ts, te, tt, b1, b2, b3, b4, b5, b6), t_s (ts, te, tt, b1, b2, b3, b4, b5, b6), I, J) h
set_option maxRecDepth 8000 in
theorem b210_189 {x1 x2 x3 : Int} (h : Go sc d mt_210 354 [vr 1835, vi x1, vi x2, vi x3] [] (z_cfg t, I, J) Q) : Go sc d mt_210 189 [vr 1835, vi x1, vi x2, vi x3] [] (z_cfg t, I, J) Q := by
  obtain ⟨ts, te, tt, b1, b2, b3, b4, b5, b6⟩ := t
  · exact z_sound (f := false) (cuts := [35, 63, 75, 90, 133, 167, 192, 210, 232, 265, 288, 352, 354, 357, 377]) 300 189 [vr 1835, vi x1, vi x2, vi x3] [] (z_tab (ts, te, tt, b1, b2, b3, b4, b5, b6) ++ t_l (ts, te, tt, b1, b2, b3, b4, b5, b6), t_s (ts, te, tt, b1, b2, b3, b4, b5, b6), I, J) h
set_option maxRecDepth 8000 in
theorem b210_192 {x1 x2 x3 : Int} (h : Cl sc d 200 [vr 1835, vi 43] (z_cfg t, I, J) (z_k sc d mt_210 false 195 [vr 1835, vi x1, vi x2, vi x3] [] Q)) : Go sc d mt_210 192 [vr 1835, vi x1, vi x2, vi x3] [] (z_cfg t, I, J) Q := by
  obtain ⟨ts, te, tt, b1, b2, b3, b4, b5, b6⟩ := t
  · exact z_sound (f := false) (cuts := [35, 63, 75, 90, 133, 167, 192, 210, 232, 265, 288, 352, 354, 357, 377]) 300 192 [vr 1835, vi x1, vi x2, vi x3] [] (z_tab (ts, te, tt, b1, b2, b3, b4, b5, b6) ++ t_l (ts, te, tt, b1, b2, b3, b4, b5, b6), t_s (ts, te, tt, b1, b2, b3, b4, b5, b6), I, J) h
set_option maxRecDepth 8000 in
theorem b210_198 {x1 x2 x3 s0 : Int} (h : (inR s0) ∧ ((s0 = 0 → Cl sc d 200 [vr 1835, vi 45] (z_cfg t, I, J) (z_k sc d mt_210 false 204 [vr 1835, vi x1, vi x2, vi x3] [] Q)) ∧ (¬ s0 = 0 → Go sc d mt_210 210 [vr 1835, vi x1, vi x2, vi x3] [] (z_cfg t, I, J) Q))) : Go sc d mt_210 198 [vr 1835, vi x1, vi x2, vi x3] [vi s0] (z_cfg t, I, J) Q := by
  obtain ⟨ts, te, tt, b1, b2, b3, b4, b5, b6⟩ := t
  · exact z_sound (f := false) (cuts := [35, 63, 75, 90, 133, 167, 192, 210, 232, 265, 288, 352, 354, 357, 377]) 300 198 [vr 1835, vi x1, vi x2, vi x3] [vi s0] (z_tab (ts, te, tt, b1, b2, b3, b4, b5, b6) ++ t_l (ts, te, tt, b1, b2, b3, b4, b5, b6), t_s (ts, te, tt, b1, b2, b3, b4, b5, b6), I, J) h
set_option maxRecDepth 8000 in
theorem b210_207 {x1 x2 x3 s0 : Int} (h : (inR s0) ∧ ((s0 = 0 → Cl sc d 200 [vr 1835, vi 42] (z_cfg t, I, J) (z_k sc d mt_210 false 250 [vr 1835, vi x1, vi x2, vi x3] [] Q)) ∧ (¬ s0 = 0 → Go sc d mt_210 210 [vr 1835, vi x1, vi x2, vi x3] [] (z_cfg t, I, J) Q))) : Go sc d mt_210 207 [vr 1835, vi x1, vi x2, vi x3] [vi s0] (z_cfg t, I, J) Q := by
  obtain ⟨ts, te, tt, b1, b2, b3, b4, b5, b6⟩ := t
  · exact z_sound (f := false) (cuts := [35, 63, 75, 90, 133, 167, 192, 210, 232, 265, 288, 352, 354, 357, 377]) 300 207 [vr 1835, vi x1, vi x2, vi x3] [vi s0] (z_tab (ts, te, tt, b1, b2, b3, b4, b5, b6) ++ t_l (ts, te, tt, b1, b2, b3, b4, b5, b6), t_s (ts, te, tt, b1, b2, b3, b4, b5, b6), I, J) h
set_option maxRecDepth 8000 in
theorem b210_210 {x1 x2 x3 : Int} (h : Cl sc d 216 [vr 1835, vi 5] (z_cfg t, I, J) (z_k sc d mt_210 false 212 [vr 1835, vi x1, vi x2, vi x3] [] Q)) : Go sc d mt_210 210 [vr 1835, vi x1, vi x2, vi x3] [] (z_cfg t, I, J) Q := by
  obtain ⟨ts, te, tt, b1, b2, b3, b4, b5, b6⟩ := t
  · exact z_sound (f := false) (cuts := [35, 63, 75, 90, 133, 167, 192, 210, 232, 265, 288, 352, 354, 357, 377]) 300 210 [vr 1835, vi x1, vi x2, vi x3] [] (z_tab (ts, te, tt, b1, b2, b3, b4, b5, b6) ++ t_l (ts, te, tt, b1, b2, b3, b4, b5, b6), t_s (ts, te, tt, b1, b2, b3, b4, b5, b6), I, J) h
set_option maxRecDepth 8000 in
theorem b210_215 {x1 x2 x3 : Int} (h : Cl sc d 200 [vr 1835, vi 43] (z_cfg t, I, J) (z_k sc d mt_210 false 219 [vr 1835, vi x1, vi x2, vi x3] [vr 1835] Q)) : Go sc d mt_210 215 [vr 1835, vi x1, vi x2, vi x3] [] (z_cfg t, I, J) Q := by
  obtain ⟨ts, te, tt, b1, b2, b3, b4, b5, b6⟩ := t
  · exact z_sound (f := false) (cuts := [35, 63, 75, 90, 133, 167, 192, 210, 232, 265, 288, 352, 354, 357, 377]) 300 215 [vr 1835, vi x1, vi x2, vi x3] [] (z_tab (ts, te, tt, b1, b2, b3, b4, b5, b6) ++ t_l (ts, te, tt, b1, b2, b3, b4, b5, b6), t_s (ts, te, tt, b1, b2, b3, b4, b5, b6), I, J) h
set_option maxRecDepth 8000 in
theorem b210_222 {x1 x2 x3 s0 : Int} (h : (inR s0) ∧ ((s0 = 0 → Go sc d mt_210 232 [vr 1835, vi x1, vi x2, vi x3] [vi 9, vr 1835] (z_cfg t, I, J) Q) ∧ (¬ s0 = 0 → Go sc d mt_210 232 [vr 1835, vi x1, vi x2, vi x3] [vi 8, vr 1835] (z_cfg t, I, J) Q))) : Go sc d mt_210 222 [vr 1835, vi x1, vi x2, vi x3] [vi s0, vr 1835] (z_cfg t, I, J) Q := by
  obtain ⟨ts, te, tt, b1, b2, b3, b4, b5, b6⟩ := t
  · exact z_sound (f := false) (cuts := [35, 63, 75, 90, 133, 167, 192, 210, 232, 265, 288, 352, 354, 357, 377]) 300 222 [vr 1835, vi x1, vi x2, vi x3] [vi s0, vr 1835] (z_tab (ts, te, tt, b1, b2, b3, b4, b5, b6) ++ t_l (ts, te, tt, b1, b2, b3, b4, b5, b6), t_s (ts, te, tt, b1, b2, b3, b4, b5, b6), I, J) h
set_option maxRecDepth 8000 in
theorem b210_232 {x1 x2 x3 s0 : Int} (h : Cl sc d 213 [vr 1835, vi s0] (z_cfg t, I, J) (z_k sc d mt_210 false 232 [vr 1835, vi x1, vi x2, vi x3] [] Q)) : Go sc d mt_210 232 [vr 1835, vi x1, vi x2, vi x3] [vi s0, vr 1835] (z_cfg t, I, J) Q := by
  obtain ⟨ts, te, tt, b1, b2, b3, b4, b5, b6⟩ := t
  · exact z_sound (f := false) (cuts := [35, 63, 75, 90, 133, 167, 192, 210, 232, 265, 288, 352, 354, 357, 377]) 300 232 [vr 1835, vi x1, vi x2, vi x3] [vi s0, vr 1835] (z_tab (ts, te, tt, b1, b2, b3, b4, b5, b6) ++ t_l (ts, te, tt, b1, b2, b3, b4, b5, b6), t_s (ts, te, tt, b1, b2, b3, b4, b5, b6), I, J) h
set_option maxRecDepth 8000 in
theorem b210_235 {x1 x2 x3 : Int} (h : Cl sc d 190 [vr 1835] (z_cfg t, I, J) (z_k sc d mt_210 false 236 [vr 1835, vi x1, vi x2, vi x3] [] Q)) : Go sc d mt_210 235 [vr 1835, vi x1, vi x2, vi x3] [] (z_cfg t, I, J) Q := by
  obtain ⟨ts, te, tt, b1, b2, b3, b4, b5, b6⟩ := t
  · exact z_sound (f := false) (cuts := [35, 63, 75, 90, 133, 167, 192, 210, 232, 265, 288, 352, 354, 357, 377]) 300 235 [vr 1835, vi x1, vi x2, vi x3] [] (z_tab (ts, te, tt, b1, b2, b3, b4, b5, b6) ++ t_l (ts, te, tt, b1, b2, b3, b4, b5, b6), t_s (ts, te, tt, b1, b2, b3, b4, b5, b6), I, J) h
set_option maxRecDepth 8000 in
theorem b210_239 {x1 x2 x3 : Int} (h : Cl sc d 212 [vr 1835, vi 0] (z_cfg t, I, J) (z_k sc d mt_210 false 241 [vr 1835, vi x1, vi x2, vi x3] [] Q)) : Go sc d mt_210 239 [vr 1835, vi x1, vi x2, vi x3] [] (z_cfg t, I, J) Q := by
  obtain ⟨ts, te, tt, b1, b2, b3, b4, b5, b6⟩ := t
  · exact z_sound (f := false) (cuts := [35, 63, 75, 90, 133, 167, 192, 210, 232, 265, 288, 352, 354, 357, 377]) 300 239 [vr 1835, vi x1, vi x2, vi x3] [] (z_tab (ts, te, tt, b1, b2, b3, b4, b5, b6) ++ t_l (ts, te, tt, b1, b2, b3, b4, b5, b6), t_s (ts, te, tt, b1, b2, b3, b4, b5, b6), I, J) h
set_option maxRecDepth 8000 in
theorem b210_244 {x1 x2 x3 : Int} (h : Go sc d mt_210 354 [vr 1835, vi x1, vi x2, vi x3] [] (z_cfg t, I, J) Q) : Go sc d mt_210 244 [vr 1835, vi x1, vi x2, vi x3] [] (z_cfg t, I, J) Q := by
  obtain ⟨ts, te, tt, b1, b2, b3, b4, b5, b6⟩ := t
  · exact z_sound (f := false) (cuts := [35, 63, 75, 90, 133, 167, 192, 210, 232, 265, 288, 352, 354, 357, 377]) 300 244 [vr 1835, vi x1, vi x2, vi x3] [] (z_tab (ts, te, tt, b1, b2, b3, b4, b5, b6) ++ t_l (ts, te, tt, b1, b2, b3, b4, b5, b6), t_s (ts, te, tt, b1, b2, b3, b4, b5, b6), I, J) h
set_option maxRecDepth 8000 in
theorem b210_253 {x1 x2 x3 s0 : Int} (h : (inR s0) ∧ ((s0 = 0 → Cl sc d 200 [vr 1835, vi 47] (z_cfg t, I, J) (z_k sc d mt_210 false 259 [vr 1835, vi x1, vi x2, vi x3] [] Q)) ∧ (¬ s0 = 0 → Go sc d mt_210 265 [vr 1835, vi x1, vi x2, vi x3] [] (z_cfg t, I, J) Q))) : Go sc d mt_210 253 [vr 1835, vi x1, vi x2, vi x3] [vi s0] (z_cfg t, I, J) Q := by
  obtain ⟨ts, te, tt, b1, b2, b3, b4, b5, b6⟩ := t
  · exact z_sound (f := false) (cuts := [35, 63, 75, 90, 133, 167, 192, 210, 232, 265, 288, 352, 354, 357, 377]) 300 253 [vr 1835, vi x1, vi x2, vi x3] [vi s0] (z_tab (ts, te, tt, b1, b2, b3, b4, b5, b6) ++ t_l (ts, te, tt, b1, b2, b3, b4, b5, b6), t_s (ts, te, tt, b1, b2, b3, b4, b5, b6), I, J) h
set_option maxRecDepth 8000 in
theorem b210_262 {x1 x2 x3 s0 : Int} (h : (inR s0) ∧ ((s0 = 0 → Cl sc d 200 [vr 1835, vi 41] (z_cfg t, I, J) (z_k sc d mt_210 false 306 [vr 1835, vi x1, vi x2, vi x3] [] Q)) ∧ (¬ s0 = 0 → Go sc d mt_210 265 [vr 1835, vi x1, vi x2, vi x3] [] (z_cfg t, I, J) Q))) : Go sc d mt_210 262 [vr 1835, vi x1, vi x2, vi x3] [vi s0] (z_cfg t, I, J) Q := by
  obtain ⟨ts, te, tt, b1, b2, b3, b4, b5, b6⟩ := t
  · exact z_sound (f := false) (cuts := [35, 63, 75, 90, 133, 167, 192, 210, 232, 265, 288, 352, 354, 357, 377]) 300 262 [vr 1835, vi x1, vi x2, vi x3] [vi s0] (z_tab (ts, te, tt, b1, b2, b3, b4, b5, b6) ++ t_l (ts, te, tt, b1, b2, b3, b4, b5, b6), t_s (ts, te, tt, b1, b2, b3, b4, b5, b6), I, J) h
set_option maxRecDepth 8000 in
theorem b210_265 {x1 x2 x3 : Int} (h : Cl sc d 216 [vr 1835, vi 6] (z_cfg t, I, J) (z_k sc d mt_210 false 268 [vr 1835, vi x1, vi x2, vi x3] [] Q)) : Go sc d mt_210 265 [vr 1835, vi x1, vi x2, vi x3] [] (z_cfg t, I, J) Q := by
  obtain ⟨ts, te, tt, b1, b2, b3, b4, b5, b6⟩ := t
  · exact z_sound (f := false) (cuts := [35, 63, 75, 90, 133, 167, 192, 210, 232, 265, 288, 352, 354, 357, 377]) 300 265 [vr 1835, vi x1, vi x2, vi x3] [] (z_tab (ts, te, tt, b1, b2, b3, b4, b5, b6) ++ t_l (ts, te, tt, b1, b2, b3, b4, b5, b6), t_s (ts, te, tt, b1, b2, b3, b4, b5, b6), I, J) h
set_option maxRecDepth 8000 in
theorem b210_271 {x1 x2 x3 : Int} (h : Cl sc d 200 [vr 1835, vi 42] (z_cfg t, I, J) (z_k sc d mt_210 false 275 [vr 1835, vi x1, vi x2, vi x3] [vr 1835] Q)) : Go sc d mt_210 271 [vr 1835, vi x1, vi x2, vi x3] [] (z_cfg t, I, J) Q := by
  obtain ⟨ts, te, tt, b1, b2, b3, b4, b5, b6⟩ := t
  · exact z_sound (f := false) (cuts := [35, 63, 75, 90, 133, 167, 192, 210, 232, 265, 288, 352, 354, 357, 377]) 300 271 [vr 1835, vi x1, vi x2, vi x3] [] (z_tab (ts, te, tt, b1, b2, b3, b4, b5, b6) ++ t_l (ts, te, tt, b1, b2, b3, b4, b5, b6), t_s (ts, te, tt, b1, b2, b3, b4, b5, b6), I, J) h
set_option maxRecDepth 8000 in
theorem b210_278 {x1 x2 x3 s0 : Int} (h : (inR s0) ∧ ((s0 = 0 → Go sc d mt_210 288 [vr 1835, vi x1, vi x2, vi x3] [vi 11, vr 1835] (z_cfg t, I, J) Q) ∧ (¬ s0 = 0 → Go sc d mt_210 288 [vr 1835, vi x1, vi x2, vi x3] [vi 10, vr 1835] (z_cfg t, I, J) Q))) : Go sc d mt_210 278 [vr 1835, vi x1, vi x2, vi x3] [vi s0, vr 1835] (z_cfg t, I, J) Q := by
  obtain ⟨ts, te, tt, b1, b2, b3, b4, b5, b6⟩ := t
  · exact z_sound (f := false) (cuts := [35, 63, 75, 90, 133, 167, 192, 210, 232, 265, 288, 352, 354, 357, 377]) 300 278 [vr 1835, vi x1, vi x2, vi x3] [vi s0, vr 1835] (z_tab (ts, te, tt, b1, b2, b3, b4, b5, b6) ++ t_l (ts, te, tt, b1, b2, b3, b4, b5, b6), t_s (ts, te, tt, b1, b2, b3, b4, b5, b6), I, J) h
set_option maxRecDepth 8000 in
theorem b210_288 {x1 x2 x3 s0 : Int} (h : Cl sc d 213 [vr 1835, vi s0] (z_cfg t, I, J) (z_k sc d mt_210 false 288 [vr 1835, vi x1, vi x2, vi x3] [] Q)) : Go sc d mt_210 288 [vr 1835, vi x1, vi x2, vi x3] [vi s0, vr 1835] (z_cfg t, I, J) Q := by
  obtain ⟨ts, te, tt, b1, b2, b3, b4, b5, b6⟩ := t
  · exact z_sound (f := false) (cuts := [35, 63, 75, 90, 133, 167, 192, 210, 232, 265, 288, 352, 354, 357, 377]) 300 288 [vr 1835, vi x1, vi x2, vi x3] [vi s0, vr 1835] (z_tab (ts, te, tt, b1, b2, b3, b4, b5, b6) ++ t_l (ts, te, tt, b1, b2, b3, b4, b5, b6), t_s (ts, te, tt, b1, b2, b3, b4, b5, b6), I, J) h
set_option maxRecDepth 8000 in
theorem b210_291 {x1 x2 x3 : Int} (h : Cl sc d 190 [vr 1835] (z_cfg t, I, J) (z_k sc d mt_210 false 292 [vr 1835, vi x1, vi x2, vi x3] [] Q)) : Go sc d mt_210 291 [vr 1835, vi x1, vi x2, vi x3] [] (z_cfg t, I, J) Q := by
  obtain ⟨ts, te, tt, b1, b2, b3, b4, b5, b6⟩ := t
  · exact z_sound (f := false) (cuts := [35, 63, 75, 90, 133, 167, 192, 210, 232, 265, 288, 352, 354, 357, 377]) 300 291 [vr 1835, vi x1, vi x2, vi x3] [] (z_tab (ts, te, tt, b1, b2, b3, b4, b5, b6) ++ t_l (ts, te, tt, b1, b2, b3, b4, b5, b6), t_s (ts, te, tt, b1, b2, b3, b4, b5, b6), I, J) h
set_option maxRecDepth 8000 in
theorem b210_295 {x1 x2 x3 : Int} (h : Cl sc d 212 [vr 1835, vi 0] (z_cfg t, I, J) (z_k sc d mt_210 false 297 [vr 1835, vi x1, vi x2, vi x3] [] Q)) : Go sc d mt_210 295 [vr 1835, vi x1, vi x2, vi x3] [] (z_cfg t, I, J) Q := by
  obtain ⟨ts, te, tt, b1, b2, b3, b4, b5, b6⟩ := t
  · exact z_sound (f := false) (cuts := [35, 63, 75, 90, 133, 167, 192, 210, 232, 265, 288, 352, 354, 357, 377]) 300 295 [vr 1835, vi x1, vi x2, vi x3] [] (z_tab (ts, te, tt, b1, b2, b3, b4, b5, b6) ++ t_l (ts, te, tt, b1, b2, b3, b4, b5, b6), t_s (ts, te, tt, b1, b2, b3, b4, b5, b6), I, J) h
set_option maxRecDepth 8000 in
theorem b210_300 {x1 x2 x3 : Int} (h : Go sc d mt_210 354 [vr 1835, vi x1, vi x2, vi x3] [] (z_cfg t, I, J) Q) : Go sc d mt_210 300 [vr 1835, vi x1, vi x2, vi x3] [] (z_cfg t, I, J) Q := by
  obtain ⟨ts, te, tt, b1, b2, b3, b4, b5, b6⟩ := t
  · exact z_sound (f := false) (cuts := [35, 63, 75, 90, 133, 167, 192, 210, 232, 265, 288, 352, 354, 357, 377]) 300 300 [vr 1835, vi x1, vi x2, vi x3] [] (z_tab (ts, te, tt, b1, b2, b3, b4, b5, b6) ++ t_l (ts, te, tt, b1, b2, b3, b4, b5, b6), t_s (ts, te, tt, b1, b2, b3, b4, b5, b6), I, J) h
set_option maxRecDepth 8000 in
theorem b210_309 {x1 x2 x3 s0 : Int} (h : (inR s0) ∧ ((s0 = 0 → Go sc d mt_210 352 [vr 1835, vi x1, vi x2, vi x3] [] (z_cfg t, I, J) Q) ∧ (¬ s0 = 0 → (inR (I 1835 36)) ∧ (((1 : Int) < I 1835 36 → Cl sc d 216 [vr 1835, vi 0] (z_cfg t, I, J) (z_k sc d mt_210 false 322 [vr 1835, vi x1, vi x2, vi x3] [] Q)) ∧ (¬ (1 : Int) < I 1835 36 → Go sc d mt_210 352 [vr 1835, vi x1, vi x2, vi x3] [] (z_cfg t, I, J) Q))))) : Go sc d mt_210 309 [vr 1835, vi x1, vi x2, vi x3] [vi s0] (z_cfg t, I, J) Q := by
  obtain ⟨ts, te, tt, b1, b2, b3, b4, b5, b6⟩ := t
  · exact z_sound (f := false) (cuts := [35, 63, 75, 90, 133, 167, 192, 210, 232, 265, 288, 352, 354, 357, 377]) 300 309 [vr 1835, vi x1, vi x2, vi x3] [vi s0] (z_tab (ts, te, tt, b1, b2, b3, b4, b5, b6) ++ t_l (ts, te, tt, b1, b2, b3, b4, b5, b6), t_s (ts, te, tt, b1, b2, b3, b4, b5, b6), I, J) (show (inR s0) ∧ ((s0 = 0 → Go sc d mt_210 352 [vr 1835, vi x1, vi x2, vi x3] [] (z_cfg (ts, te, tt, b1, b2, b3, b4, b5, b6), I, J) Q) ∧ (¬ s0 = 0 → (inR (I 1835 36)) ∧ (inR 1) ∧ (((1 : Int) < I 1835 36 → Cl sc d 216 [vr 1835, vi 0] (z_cfg (ts, te, tt, b1, b2, b3, b4, b5, b6), I, J) (z_k sc d mt_210 false 322 [vr 1835, vi x1, vi x2, vi x3] [] Q)) ∧ (¬ (1 : Int) < I 1835 36 → Go sc d mt_210 352 [vr 1835, vi x1, vi x2, vi x3] [] (z_cfg (ts, te, tt, b1, b2, b3, b4, b5, b6), I, J) Q)))) from ⟨h.1, ⟨fun c0 => (h.2.1 c0), fun c0 => ⟨(h.2.2 c0).1, ⟨⟨by decide, by decide⟩, ⟨fun c1 => ((h.2.2 c0).2.1 c1), fun c1 => ((h.2.2 c0).2.2 c1)⟩⟩⟩⟩⟩)
set_option maxRecDepth 8000 in
theorem b210_325 {x1 x2 x3 : Int} (h : Cl sc d 190 [vr 1835] (z_cfg t, z_u (z_u I 1835 35 ((I 1835 35) - 1)) 1835 36 ((I 1835 36) - 1), J) (z_k sc d mt_210 false 346 [vr 1835, vi x1, vi x2, vi x3] [] Q)) : Go sc d mt_210 325 [vr 1835, vi x1, vi x2, vi x3] [] (z_cfg t, I, J) Q := by
  obtain ⟨ts, te, tt, b1, b2, b3, b4, b5, b6⟩ := t
  · exact z_sound (f := false) (cuts := [35, 63, 75, 90, 133, 167, 192, 210, 232, 265, 288, 352, 354, 357, 377]) 300 325 [vr 1835, vi x1, vi x2, vi x3] [] (z_tab (ts, te, tt, b1, b2, b3, b4, b5, b6) ++ t_l (ts, te, tt, b1, b2, b3, b4, b5, b6), t_s (ts, te, tt, b1, b2, b3, b4, b5, b6), I, J) h
set_option maxRecDepth 8000 in
theorem b210_349 {x1 x2 x3 : Int} (h : Go sc d mt_210 354 [vr 1835, vi x1, vi x2, vi x3] [] (z_cfg t, I, J) Q) : Go sc d mt_210 349 [vr 1835, vi x1, vi x2, vi x3] [] (z_cfg t, I, J) Q := by
  obtain ⟨ts, te, tt, b1, b2, b3, b4, b5, b6⟩ := t
  · exact z_sound (f := false) (cuts := [35, 63, 75, 90, 133, 167, 192, 210, 232, 265, 288, 352, 354, 357, 377]) 300 349 [vr 1835, vi x1, vi x2, vi x3] [] (z_tab (ts, te, tt, b1, b2, b3, b4, b5, b6) ++ t_l (ts, te, tt, b1, b2, b3, b4, b5, b6), t_s (ts, te, tt, b1, b2, b3, b4, b5, b6), I, J) h
set_option maxRecDepth 8000 in
theorem b210_352 {x1 x2 x3 : Int} (h : Go sc d mt_210 354 [vr 1835, vi x1, vi 0, vi x3] [] (z_cfg t, I, J) Q) : Go sc d mt_210 352 [vr 1835, vi x1, vi x2, vi x3] [] (z_cfg t, I, J) Q := by
  obtain ⟨ts, te, tt, b1, b2, b3, b4, b5, b6⟩ := t
  · exact z_sound (f := false) (cuts := [35, 63, 75, 90, 133, 167, 192, 210, 232, 265, 288, 352, 354, 357, 377]) 300 352 [vr 1835, vi x1, vi x2, vi x3] [] (z_tab (ts, te, tt, b1, b2, b3, b4, b5, b6) ++ t_l (ts, te, tt, b1, b2, b3, b4, b5, b6), t_s (ts, te, tt, b1, b2, b3, b4, b5, b6), I, J) h
set_option maxRecDepth 8000 in
theorem b210_354 {x1 x2 x3 : Int} (h : Go sc d mt_210 35 [vr 1835, vi x1, vi x2, vi x3] [] (z_cfg t, I, J) Q) : Go sc d mt_210 354 [vr 1835, vi x1, vi x2, vi x3] [] (z_cfg t, I, J) Q := by
  obtain ⟨ts, te, tt, b1, b2, b3, b4, b5, b6⟩ := t
  · exact z_sound (f := false) (cuts := [35, 63, 75, 90, 133, 167, 192, 210, 232, 265, 288, 352, 354, 357, 377]) 300 354 [vr 1835, vi x1, vi x2, vi x3] [] (z_tab (ts, te, tt, b1, b2, b3, b4, b5, b6) ++ t_l (ts, te, tt, b1, b2, b3, b4, b5, b6), t_s (ts, te, tt, b1, b2, b3, b4, b5, b6), I, J) h
set_option maxRecDepth 8000 in
theorem b210_357 {x1 x2 : Int} {v3 : zV} (h : Cl sc d 198 [vr 1835] (z_cfg t, I, J) (z_k sc d mt_210 false 358 [vr 1835, vi x1, vi x2, v3] [] Q)) : Go sc d mt_210 357 [vr 1835, vi x1, vi x2, v3] [] (z_cfg t, I, J) Q := by
  obtain ⟨ts, te, tt, b1, b2, b3, b4, b5, b6⟩ := t
  · exact z_sound (f := false) (cuts := [35, 63, 75, 90, 133, 167, 192, 210, 232, 265, 288, 352, 354, 357, 377]) 300 357 [vr 1835, vi x1, vi x2, v3] [] (z_tab (ts, te, tt, b1, b2, b3, b4, b5, b6) ++ t_l (ts, te, tt, b1, b2, b3, b4, b5, b6), t_s (ts, te, tt, b1, b2, b3, b4, b5, b6), I, J) h
set_option maxRecDepth 8000 in
theorem b210_361 {x1 x2 s0 : Int} {v3 : zV} (h : (inR s0) ∧ ((s0 = 0 → Go sc d mt_210 377 [vr 1835, vi x1, vi x2, v3] [] (z_cfg t, I, J) Q) ∧ (¬ s0 = 0 → (inR (I 1835 36)) ∧ (((1 : Int) < I 1835 36 → Cl sc d 199 [vr 1835, vi 1] (z_cfg t, I, J) (z_k sc d mt_210 false 374 [vr 1835, vi x1, vi x2, v3] [] Q)) ∧ (¬ (1 : Int) < I 1835 36 → Go sc d mt_210 377 [vr 1835, vi x1, vi x2, v3] [] (z_cfg t, I, J) Q))))) : Go sc d mt_210 361 [vr 1835, vi x1, vi x2, v3] [vi s0] (z_cfg t, I, J) Q := by
  obtain ⟨ts, te, tt, b1, b2, b3, b4, b5, b6⟩ := t
  · exact z_sound (f := false) (cuts := [35, 63, 75, 90, 133, 167, 192, 210, 232, 265, 288, 352, 354, 357, 377]) 300 361 [vr 1835, vi x1, vi x2, v3] [vi s0] (z_tab (ts, te, tt, b1, b2, b3, b4, b5, b6) ++ t_l (ts, te, tt, b1, b2, b3, b4, b5, b6), t_s (ts, te, tt, b1, b2, b3, b4, b5, b6), I, J) (show (inR s0) ∧ ((s0 = 0 → Go sc d mt_210 377 [vr 1835, vi x1, vi x2, v3] [] (z_cfg (ts, te, tt, b1, b2, b3, b4, b5, b6), I, J) Q) ∧ (¬ s0 = 0 → (inR (I 1835 36)) ∧ (inR 1) ∧ (((1 : Int) < I 1835 36 → Cl sc d 199 [vr 1835, vi 1] (z_cfg (ts, te, tt, b1, b2, b3, b4, b5, b6), I, J) (z_k sc d mt_210 false 374 [vr 1835, vi x1, vi x2, v3] [] Q)) ∧ (¬ (1 : Int) < I 1835 36 → Go sc d mt_210 377 [vr 1835, vi x1, vi x2, v3] [] (z_cfg (ts, te, tt, b1, b2, b3, b4, b5, b6), I, J) Q)))) from ⟨h.1, ⟨fun c0 => (h.2.1 c0), fun c0 => ⟨(h.2.2 c0).1, ⟨⟨by decide, by decide⟩, ⟨fun c1 => ((h.2.2 c0).2.1 c1), fun c1 => ((h.2.2 c0).2.2 c1)⟩⟩⟩⟩⟩)
set_option maxRecDepth 8000 in
theorem b210_377 {x1 x2 : Int} {v3 : zV} (h : Cl sc d 216 [vr 1835, vi 0] (z_cfg t, I, J) (z_k sc d mt_210 false 379 [vr 1835, vi x1, vi x2, v3] [] Q)) : Go sc d mt_210 377 [vr 1835, vi x1, vi x2, v3] [] (z_cfg t, I, J) Q := by
  obtain ⟨ts, te, tt, b1, b2, b3, b4, b5, b6⟩ := t
  · exact z_sound (f := false) (cuts := [35, 63, 75, 90, 133, 167, 192, 210, 232, 265, 288, 352, 354, 357, 377]) 300 377 [vr 1835, vi x1, vi x2, v3] [] (z_tab (ts, te, tt, b1, b2, b3, b4, b5, b6) ++ t_l (ts, te, tt, b1, b2, b3, b4, b5, b6), t_s (ts, te, tt, b1, b2, b3, b4, b5, b6), I, J) h
set_option maxRecDepth 8000 in
theorem b210_382 {x1 x2 : Int} {v3 : zV} (h : Cl sc d 215 [vr 1835, vi 0] (z_cfg t, I, J) (z_k sc d mt_210 false 384 [vr 1835, vi x1, vi x2, v3] [] Q)) : Go sc d mt_210 382 [vr 1835, vi x1, vi x2, v3] [] (z_cfg t, I, J) Q := by
  obtain ⟨ts, te, tt, b1, b2, b3, b4, b5, b6⟩ := t
  · exact z_sound (f := false) (cuts := [35, 63, 75, 90, 133, 167, 192, 210, 232, 265, 288, 352, 354, 357, 377]) 300 382 [vr 1835, vi x1, vi x2, v3] [] (z_tab (ts, te, tt, b1, b2, b3, b4, b5, b6) ++ t_l (ts, te, tt, b1, b2, b3, b4, b5, b6), t_s (ts, te, tt, b1, b2, b3, b4, b5, b6), I, J) h
set_option maxRecDepth 8000 in
theorem b210_387 {x1 x2 : Int} {v3 : zV} (h : Q (.inl (some (vi x1))) (z_cfg t, I, J)) : Go sc d mt_210 387 [vr 1835, vi x1, vi x2, v3] [] (z_cfg t, I, J) Q := by
  obtain ⟨ts, te, tt, b1, b2, b3, b4, b5, b6⟩ := t
  · exact z_sound (f := false) (cuts := [35, 63, 75, 90, 133, 167, 192, 210, 232, 265, 288, 352, 354, 357, 377]) 300 387 [vr 1835, vi x1, vi x2, v3] [] (z_tab (ts, te, tt, b1, b2, b3, b4, b5, b6) ++ t_l (ts, te, tt, b1, b2, b3, b4, b5, b6), t_s (ts, te, tt, b1, b2, b3, b4, b5, b6), I, J) h
theorem c210 {w : zW} {K : zR → zW → Prop} (hd : 1 ≤ d) (h : ∀ d', d = d' + 1 → Go sc d' mt_210 0 [vr 1835, vn, vn, vn] [] w K) : Cl sc d 210 [vr 1835] w K := Cl_of rfl hd h
/-! FerryHallModel deeper ()V -/
set_option maxRecDepth 8000 in
theorem b211_0 (h : (inR (I 1835 36)) ∧ ((I 1835 36 < (6 : Int) → (0 ≤ (I 1835 36) + 1 ∧ (I 1835 36) + 1 < 9) ∧ Q (.inl none) (z_cfg t, z_u (z_u I 1835 36 ((I 1835 36) + 1)) 2582 ((I 1835 36) + 1).toNat (znz 0), J)) ∧ (¬ I 1835 36 < (6 : Int) → (inR (I 1835 23)) ∧ ((I 1835 23 = (2 : Int) → Go sc d mt_211 56 [vr 1835] [vr 1835] (z_cfg t, I, J) Q) ∧ (¬ I 1835 23 = (2 : Int) → (I 1835 23 = (1 : Int) → Go sc d mt_211 56 [vr 1835] [vr 1835] (z_cfg t, I, J) Q) ∧ (¬ I 1835 23 = (1 : Int) → Cl sc d 200 [vr 1835, vi 40] (z_cfg t, I, J) (z_k sc d mt_211 false 50 [vr 1835] [vr 1835] Q))))))) : Go sc d mt_211 0 [vr 1835] [] (z_cfg t, I, J) Q := by
  obtain ⟨ts, te, tt, b1, b2, b3, b4, b5, b6⟩ := t
  · exact z_sound (f := false) (cuts := [56, 61]) 300 0 [vr 1835] [] (z_tab (ts, te, tt, b1, b2, b3, b4, b5, b6) ++ t_l (ts, te, tt, b1, b2, b3, b4, b5, b6), t_s (ts, te, tt, b1, b2, b3, b4, b5, b6), I, J) (show (inR (I 1835 36)) ∧ (inR 6) ∧ ((I 1835 36 < (6 : Int) → (0 ≤ (I 1835 36) + 1 ∧ (I 1835 36) + 1 < 9) ∧ Q (.inl none) (z_cfg (ts, te, tt, b1, b2, b3, b4, b5, b6), z_u (z_u I 1835 36 ((I 1835 36) + 1)) 2582 ((I 1835 36) + 1).toNat (znz 0), J)) ∧ (¬ I 1835 36 < (6 : Int) → (inR (I 1835 23)) ∧ (inR 2) ∧ ((I 1835 23 = (2 : Int) → Go sc d mt_211 56 [vr 1835] [vr 1835] (z_cfg (ts, te, tt, b1, b2, b3, b4, b5, b6), I, J) Q) ∧ (¬ I 1835 23 = (2 : Int) → (inR (I 1835 23)) ∧ (inR 1) ∧ ((I 1835 23 = (1 : Int) → Go sc d mt_211 56 [vr 1835] [vr 1835] (z_cfg (ts, te, tt, b1, b2, b3, b4, b5, b6), I, J) Q) ∧ (¬ I 1835 23 = (1 : Int) → Cl sc d 200 [vr 1835, vi 40] (z_cfg (ts, te, tt, b1, b2, b3, b4, b5, b6), I, J) (z_k sc d mt_211 false 50 [vr 1835] [vr 1835] Q))))))) from ⟨h.1, ⟨⟨by decide, by decide⟩, ⟨fun c0 => ⟨(h.2.1 c0).1, (h.2.1 c0).2⟩, fun c0 => ⟨(h.2.2 c0).1, ⟨⟨by decide, by decide⟩, ⟨fun c1 => ((h.2.2 c0).2.1 c1), fun c1 => ⟨(h.2.2 c0).1, ⟨⟨by decide, by decide⟩, ⟨fun c2 => (((h.2.2 c0).2.2 c1).1 c2), fun c2 => (((h.2.2 c0).2.2 c1).2 c2)⟩⟩⟩⟩⟩⟩⟩⟩⟩)
set_option maxRecDepth 8000 in
theorem b211_53 {s0 : Int} (h : (inR s0) ∧ ((s0 = 0 → Go sc d mt_211 61 [vr 1835] [vi 1, vr 1835] (z_cfg t, I, J) Q) ∧ (¬ s0 = 0 → Go sc d mt_211 56 [vr 1835] [vr 1835] (z_cfg t, I, J) Q))) : Go sc d mt_211 53 [vr 1835] [vi s0, vr 1835] (z_cfg t, I, J) Q := by
  obtain ⟨ts, te, tt, b1, b2, b3, b4, b5, b6⟩ := t
  · exact z_sound (f := false) (cuts := [56, 61]) 300 53 [vr 1835] [vi s0, vr 1835] (z_tab (ts, te, tt, b1, b2, b3, b4, b5, b6) ++ t_l (ts, te, tt, b1, b2, b3, b4, b5, b6), t_s (ts, te, tt, b1, b2, b3, b4, b5, b6), I, J) h
set_option maxRecDepth 8000 in
theorem b211_56 (h : Go sc d mt_211 61 [vr 1835] [vi 2, vr 1835] (z_cfg t, I, J) Q) : Go sc d mt_211 56 [vr 1835] [vr 1835] (z_cfg t, I, J) Q := by
  obtain ⟨ts, te, tt, b1, b2, b3, b4, b5, b6⟩ := t
  · exact z_sound (f := false) (cuts := [56, 61]) 300 56 [vr 1835] [vr 1835] (z_tab (ts, te, tt, b1, b2, b3, b4, b5, b6) ++ t_l (ts, te, tt, b1, b2, b3, b4, b5, b6), t_s (ts, te, tt, b1, b2, b3, b4, b5, b6), I, J) h
set_option maxRecDepth 8000 in
theorem b211_61 {s0 : Int} (h : Cl sc d 199 [vr 1835, vi s0] (z_cfg t, I, J) (z_k sc d mt_211 false 61 [vr 1835] [] Q)) : Go sc d mt_211 61 [vr 1835] [vi s0, vr 1835] (z_cfg t, I, J) Q := by
  obtain ⟨ts, te, tt, b1, b2, b3, b4, b5, b6⟩ := t
  · exact z_sound (f := false) (cuts := [56, 61]) 300 61 [vr 1835] [vi s0, vr 1835] (z_tab (ts, te, tt, b1, b2, b3, b4, b5, b6) ++ t_l (ts, te, tt, b1, b2, b3, b4, b5, b6), t_s (ts, te, tt, b1, b2, b3, b4, b5, b6), I, J) h
set_option maxRecDepth 8000 in
theorem b211_64 (h : Q (.inl none) (z_cfg t, I, J)) : Go sc d mt_211 64 [vr 1835] [] (z_cfg t, I, J) Q := by
  obtain ⟨ts, te, tt, b1, b2, b3, b4, b5, b6⟩ := t
  · exact z_sound (f := false) (cuts := [56, 61]) 300 64 [vr 1835] [] (z_tab (ts, te, tt, b1, b2, b3, b4, b5, b6) ++ t_l (ts, te, tt, b1, b2, b3, b4, b5, b6), t_s (ts, te, tt, b1, b2, b3, b4, b5, b6), I, J) h
theorem c211 {w : zW} {K : zR → zW → Prop} (hd : 1 ≤ d) (h : ∀ d', d = d' + 1 → Go sc d' mt_211 0 [vr 1835] [] w K) : Cl sc d 211 [vr 1835] w K := Cl_of rfl hd h
/-! FerryHallModel operand (Z)V -/
set_option maxRecDepth 8000 in
theorem b212_0 {x1 : Int} (h : Go sc d mt_212 4 [vr 1835, vi x1, vi x1, vi 1, vn] [] (z_cfg t, I, J) Q) : Go sc d mt_212 0 [vr 1835, vi x1, vn, vn, vn] [] (z_cfg t, I, J) Q := by
  obtain ⟨ts, te, tt, b1, b2, b3, b4, b5, b6⟩ := t
  · exact z_sound (f := false) (cuts := [4, 18, 50, 75, 95, 96, 117, 120]) 300 0 [vr 1835, vi x1, vn, vn, vn] [] (z_tab (ts, te, tt, b1, b2, b3, b4, b5, b6) ++ t_l (ts, te, tt, b1, b2, b3, b4, b5, b6), t_s (ts, te, tt, b1, b2, b3, b4, b5, b6), I, J) h
set_option maxRecDepth 8000 in
theorem b212_4 {x1 x2 x3 : Int} {v4 : zV} (h : (inR x3) ∧ ((x3 = 0 → Go sc d mt_212 120 [vr 1835, vi x1, vi x2, vi x3, v4] [] (z_cfg t, I, J) Q) ∧ (¬ x3 = 0 → Cl sc d 198 [vr 1835] (z_cfg t, I, J) (z_k sc d mt_212 false 9 [vr 1835, vi x1, vi x2, vi x3, v4] [] Q)))) : Go sc d mt_212 4 [vr 1835, vi x1, vi x2, vi x3, v4] [] (z_cfg t, I, J) Q := by
  obtain ⟨ts, te, tt, b1, b2, b3, b4, b5, b6⟩ := t
  · exact z_sound (f := false) (cuts := [4, 18, 50, 75, 95, 96, 117, 120]) 300 4 [vr 1835, vi x1, vi x2, vi x3, v4] [] (z_tab (ts, te, tt, b1, b2, b3, b4, b5, b6) ++ t_l (ts, te, tt, b1, b2, b3, b4, b5, b6), t_s (ts, te, tt, b1, b2, b3, b4, b5, b6), I, J) h
set_option maxRecDepth 8000 in
theorem b212_12 {x1 x2 x3 s0 : Int} {v4 : zV} (h : (inR s0) ∧ ((s0 = 0 → Go sc d mt_212 120 [vr 1835, vi x1, vi x2, vi x3, v4] [] (z_cfg t, I, J) Q) ∧ (¬ s0 = 0 → Go sc d mt_212 18 [vr 1835, vi x1, vi x2, vi x3, vi 0] [] (z_cfg t, I, J) Q))) : Go sc d mt_212 12 [vr 1835, vi x1, vi x2, vi x3, v4] [vi s0] (z_cfg t, I, J) Q := by
  obtain ⟨ts, te, tt, b1, b2, b3, b4, b5, b6⟩ := t
  · exact z_sound (f := false) (cuts := [4, 18, 50, 75, 95, 96, 117, 120]) 300 12 [vr 1835, vi x1, vi x2, vi x3, v4] [vi s0] (z_tab (ts, te, tt, b1, b2, b3, b4, b5, b6) ++ t_l (ts, te, tt, b1, b2, b3, b4, b5, b6), t_s (ts, te, tt, b1, b2, b3, b4, b5, b6), I, J) h
set_option maxRecDepth 8000 in
theorem b212_18 {x1 x2 x3 x4 : Int} (h : Cl sc d 198 [vr 1835] (z_cfg t, I, J) (z_k sc d mt_212 false 19 [vr 1835, vi x1, vi x2, vi x3, vi x4] [] Q)) : Go sc d mt_212 18 [vr 1835, vi x1, vi x2, vi x3, vi x4] [] (z_cfg t, I, J) Q := by
  obtain ⟨ts, te, tt, b1, b2, b3, b4, b5, b6⟩ := t
  · exact z_sound (f := false) (cuts := [4, 18, 50, 75, 95, 96, 117, 120]) 300 18 [vr 1835, vi x1, vi x2, vi x3, vi x4] [] (z_tab (ts, te, tt, b1, b2, b3, b4, b5, b6) ++ t_l (ts, te, tt, b1, b2, b3, b4, b5, b6), t_s (ts, te, tt, b1, b2, b3, b4, b5, b6), I, J) h
set_option maxRecDepth 8000 in
theorem b212_22 {x1 x2 x3 x4 s0 : Int} (h : (inR s0) ∧ ((s0 = 0 → Go sc d mt_212 75 [vr 1835, vi x1, vi x2, vi x3, vi x4] [] (z_cfg t, I, J) Q) ∧ (¬ s0 = 0 → (inR x2) ∧ ((x2 = 0 → Go sc d mt_212 75 [vr 1835, vi x1, vi x2, vi x3, vi x4] [] (z_cfg t, I, J) Q) ∧ (¬ x2 = 0 → Cl sc d 194 [vr 1835] (z_cfg t, I, J) (z_k sc d mt_212 false 30 [vr 1835, vi x1, vi x2, vi x3, vi x4] [] Q)))))) : Go sc d mt_212 22 [vr 1835, vi x1, vi x2, vi x3, vi x4] [vi s0] (z_cfg t, I, J) Q := by
  obtain ⟨ts, te, tt, b1, b2, b3, b4, b5, b6⟩ := t
  · exact z_sound (f := false) (cuts := [4, 18, 50, 75, 95, 96, 117, 120]) 300 22 [vr 1835, vi x1, vi x2, vi x3, vi x4] [vi s0] (z_tab (ts, te, tt, b1, b2, b3, b4, b5, b6) ++ t_l (ts, te, tt, b1, b2, b3, b4, b5, b6), t_s (ts, te, tt, b1, b2, b3, b4, b5, b6), I, J) h
set_option maxRecDepth 8000 in
theorem b212_33 {x1 x2 x3 x4 s0 : Int} (h : (inR s0) ∧ ((s0 = (16 : Int) → (inR x4) ∧ ((x4 = (6 : Int) → Cl sc d 199 [vr 1835, vi 2] (z_cfg t, I, J) (z_k sc d mt_212 false 47 [vr 1835, vi x1, vi x2, vi x3, vi x4] [] Q)) ∧ (¬ x4 = (6 : Int) → Go sc d mt_212 50 [vr 1835, vi x1, vi x2, vi x3, vi x4] [] (z_cfg t, I, J) Q))) ∧ (¬ s0 = (16 : Int) → Go sc d mt_212 75 [vr 1835, vi x1, vi x2, vi x3, vi x4] [] (z_cfg t, I, J) Q))) : Go sc d mt_212 33 [vr 1835, vi x1, vi x2, vi x3, vi x4] [vi s0] (z_cfg t, I, J) Q := by
  obtain ⟨ts, te, tt, b1, b2, b3, b4, b5, b6⟩ := t
  · exact z_sound (f := false) (cuts := [4, 18, 50, 75, 95, 96, 117, 120]) 300 33 [vr 1835, vi x1, vi x2, vi x3, vi x4] [vi s0] (z_tab (ts, te, tt, b1, b2, b3, b4, b5, b6) ++ t_l (ts, te, tt, b1, b2, b3, b4, b5, b6), t_s (ts, te, tt, b1, b2, b3, b4, b5, b6), I, J) (show (inR s0) ∧ (inR 16) ∧ ((s0 = (16 : Int) → (inR x4) ∧ (inR 6) ∧ ((x4 = (6 : Int) → Cl sc d 199 [vr 1835, vi 2] (z_cfg (ts, te, tt, b1, b2, b3, b4, b5, b6), I, J) (z_k sc d mt_212 false 47 [vr 1835, vi x1, vi x2, vi x3, vi x4] [] Q)) ∧ (¬ x4 = (6 : Int) → Go sc d mt_212 50 [vr 1835, vi x1, vi x2, vi x3, vi x4] [] (z_cfg (ts, te, tt, b1, b2, b3, b4, b5, b6), I, J) Q))) ∧ (¬ s0 = (16 : Int) → Go sc d mt_212 75 [vr 1835, vi x1, vi x2, vi x3, vi x4] [] (z_cfg (ts, te, tt, b1, b2, b3, b4, b5, b6), I, J) Q)) from ⟨h.1, ⟨⟨by decide, by decide⟩, ⟨fun c0 => ⟨(h.2.1 c0).1, ⟨⟨by decide, by decide⟩, ⟨fun c1 => ((h.2.1 c0).2.1 c1), fun c1 => ((h.2.1 c0).2.2 c1)⟩⟩⟩, fun c0 => (h.2.2 c0)⟩⟩⟩)
set_option maxRecDepth 8000 in
theorem b212_50 {x1 x2 x3 x4 : Int} (h : Cl sc d 198 [vr 1835] (z_cfg t, I, J) (z_k sc d mt_212 false 54 [vr 1835, vi x1, vi x2, vi x3, vi (x4 + 1)] [] Q)) : Go sc d mt_212 50 [vr 1835, vi x1, vi x2, vi x3, vi x4] [] (z_cfg t, I, J) Q := by
  obtain ⟨ts, te, tt, b1, b2, b3, b4, b5, b6⟩ := t
  · exact z_sound (f := false) (cuts := [4, 18, 50, 75, 95, 96, 117, 120]) 300 50 [vr 1835, vi x1, vi x2, vi x3, vi x4] [] (z_tab (ts, te, tt, b1, b2, b3, b4, b5, b6) ++ t_l (ts, te, tt, b1, b2, b3, b4, b5, b6), t_s (ts, te, tt, b1, b2, b3, b4, b5, b6), I, J) h
set_option maxRecDepth 8000 in
theorem b212_57 {x1 x2 x3 x4 s0 : Int} (h : (inR s0) ∧ ((s0 = 0 → Go sc d mt_212 18 [vr 1835, vi x1, vi x2, vi x3, vi x4] [] (z_cfg t, I, J) Q) ∧ (¬ s0 = 0 → Cl sc d 213 [vr 1835, vi 3] (z_cfg t, I, J) (z_k sc d mt_212 false 65 [vr 1835, vi x1, vi x2, vi x3, vi x4] [] Q)))) : Go sc d mt_212 57 [vr 1835, vi x1, vi x2, vi x3, vi x4] [vi s0] (z_cfg t, I, J) Q := by
  obtain ⟨ts, te, tt, b1, b2, b3, b4, b5, b6⟩ := t
  · exact z_sound (f := false) (cuts := [4, 18, 50, 75, 95, 96, 117, 120]) 300 57 [vr 1835, vi x1, vi x2, vi x3, vi x4] [vi s0] (z_tab (ts, te, tt, b1, b2, b3, b4, b5, b6) ++ t_l (ts, te, tt, b1, b2, b3, b4, b5, b6), t_s (ts, te, tt, b1, b2, b3, b4, b5, b6), I, J) h
set_option maxRecDepth 8000 in
theorem b212_68 {x1 x2 x3 x4 : Int} (h : Cl sc d 190 [vr 1835] (z_cfg t, I, J) (z_k sc d mt_212 false 69 [vr 1835, vi x1, vi x2, vi x3, vi x4] [] Q)) : Go sc d mt_212 68 [vr 1835, vi x1, vi x2, vi x3, vi x4] [] (z_cfg t, I, J) Q := by
  obtain ⟨ts, te, tt, b1, b2, b3, b4, b5, b6⟩ := t
  · exact z_sound (f := false) (cuts := [4, 18, 50, 75, 95, 96, 117, 120]) 300 68 [vr 1835, vi x1, vi x2, vi x3, vi x4] [] (z_tab (ts, te, tt, b1, b2, b3, b4, b5, b6) ++ t_l (ts, te, tt, b1, b2, b3, b4, b5, b6), t_s (ts, te, tt, b1, b2, b3, b4, b5, b6), I, J) h
set_option maxRecDepth 8000 in
theorem b212_72 {x1 x2 x3 x4 : Int} (h : Go sc d mt_212 18 [vr 1835, vi x1, vi x2, vi x3, vi x4] [] (z_cfg t, I, J) Q) : Go sc d mt_212 72 [vr 1835, vi x1, vi x2, vi x3, vi x4] [] (z_cfg t, I, J) Q := by
  obtain ⟨ts, te, tt, b1, b2, b3, b4, b5, b6⟩ := t
  · exact z_sound (f := false) (cuts := [4, 18, 50, 75, 95, 96, 117, 120]) 300 72 [vr 1835, vi x1, vi x2, vi x3, vi x4] [] (z_tab (ts, te, tt, b1, b2, b3, b4, b5, b6) ++ t_l (ts, te, tt, b1, b2, b3, b4, b5, b6), t_s (ts, te, tt, b1, b2, b3, b4, b5, b6), I, J) h
set_option maxRecDepth 8000 in
theorem b212_75 {x1 x2 x3 x4 : Int} (h : Cl sc d 198 [vr 1835] (z_cfg t, I, J) (z_k sc d mt_212 false 76 [vr 1835, vi x1, vi x2, vi x3, vi x4] [] Q)) : Go sc d mt_212 75 [vr 1835, vi x1, vi x2, vi x3, vi x4] [] (z_cfg t, I, J) Q := by
  obtain ⟨ts, te, tt, b1, b2, b3, b4, b5, b6⟩ := t
  · exact z_sound (f := false) (cuts := [4, 18, 50, 75, 95, 96, 117, 120]) 300 75 [vr 1835, vi x1, vi x2, vi x3, vi x4] [] (z_tab (ts, te, tt, b1, b2, b3, b4, b5, b6) ++ t_l (ts, te, tt, b1, b2, b3, b4, b5, b6), t_s (ts, te, tt, b1, b2, b3, b4, b5, b6), I, J) h
set_option maxRecDepth 8000 in
theorem b212_79 {x1 x2 x3 x4 s0 : Int} (h : (inR s0) ∧ ((s0 = 0 → Go sc d mt_212 95 [vr 1835, vi x1, vi x2, vi x3, vi x4] [] (z_cfg t, I, J) Q) ∧ (¬ s0 = 0 → Cl sc d 200 [vr 1835, vi 40] (z_cfg t, I, J) (z_k sc d mt_212 false 85 [vr 1835, vi x1, vi x2, vi x3, vi x4] [] Q)))) : Go sc d mt_212 79 [vr 1835, vi x1, vi x2, vi x3, vi x4] [vi s0] (z_cfg t, I, J) Q := by
  obtain ⟨ts, te, tt, b1, b2, b3, b4, b5, b6⟩ := t
  · exact z_sound (f := false) (cuts := [4, 18, 50, 75, 95, 96, 117, 120]) 300 79 [vr 1835, vi x1, vi x2, vi x3, vi x4] [vi s0] (z_tab (ts, te, tt, b1, b2, b3, b4, b5, b6) ++ t_l (ts, te, tt, b1, b2, b3, b4, b5, b6), t_s (ts, te, tt, b1, b2, b3, b4, b5, b6), I, J) h
set_option maxRecDepth 8000 in
theorem b212_88 {x1 x2 x3 x4 s0 : Int} (h : (inR s0) ∧ ((s0 = 0 → Go sc d mt_212 95 [vr 1835, vi x1, vi x2, vi x3, vi x4] [] (z_cfg t, I, J) Q) ∧ (¬ s0 = 0 → Go sc d mt_212 96 [vr 1835, vi x1, vi x2, vi x3, vi x4] [vi 1] (z_cfg t, I, J) Q))) : Go sc d mt_212 88 [vr 1835, vi x1, vi x2, vi x3, vi x4] [vi s0] (z_cfg t, I, J) Q := by
  obtain ⟨ts, te, tt, b1, b2, b3, b4, b5, b6⟩ := t
  · exact z_sound (f := false) (cuts := [4, 18, 50, 75, 95, 96, 117, 120]) 300 88 [vr 1835, vi x1, vi x2, vi x3, vi x4] [vi s0] (z_tab (ts, te, tt, b1, b2, b3, b4, b5, b6) ++ t_l (ts, te, tt, b1, b2, b3, b4, b5, b6), t_s (ts, te, tt, b1, b2, b3, b4, b5, b6), I, J) h
set_option maxRecDepth 8000 in
theorem b212_95 {x1 x2 x3 x4 : Int} (h : Go sc d mt_212 96 [vr 1835, vi x1, vi x2, vi x3, vi x4] [vi 0] (z_cfg t, I, J) Q) : Go sc d mt_212 95 [vr 1835, vi x1, vi x2, vi x3, vi x4] [] (z_cfg t, I, J) Q := by
  obtain ⟨ts, te, tt, b1, b2, b3, b4, b5, b6⟩ := t
  · exact z_sound (f := false) (cuts := [4, 18, 50, 75, 95, 96, 117, 120]) 300 95 [vr 1835, vi x1, vi x2, vi x3, vi x4] [] (z_tab (ts, te, tt, b1, b2, b3, b4, b5, b6) ++ t_l (ts, te, tt, b1, b2, b3, b4, b5, b6), t_s (ts, te, tt, b1, b2, b3, b4, b5, b6), I, J) h
set_option maxRecDepth 8000 in
theorem b212_96 {x1 x2 x3 x4 s0 : Int} (h : (inR s0) ∧ ((s0 = 0 → Go sc d mt_212 117 [vr 1835, vi x1, vi x2, vi s0, vi x4] [] (z_cfg t, I, J) Q) ∧ (¬ s0 = 0 → Cl sc d 213 [vr 1835, vi 12] (z_cfg t, I, J) (z_k sc d mt_212 false 104 [vr 1835, vi x1, vi x2, vi s0, vi x4] [] Q)))) : Go sc d mt_212 96 [vr 1835, vi x1, vi x2, vi x3, vi x4] [vi s0] (z_cfg t, I, J) Q := by
  obtain ⟨ts, te, tt, b1, b2, b3, b4, b5, b6⟩ := t
  · exact z_sound (f := false) (cuts := [4, 18, 50, 75, 95, 96, 117, 120]) 300 96 [vr 1835, vi x1, vi x2, vi x3, vi x4] [vi s0] (z_tab (ts, te, tt, b1, b2, b3, b4, b5, b6) ++ t_l (ts, te, tt, b1, b2, b3, b4, b5, b6), t_s (ts, te, tt, b1, b2, b3, b4, b5, b6), I, J) h
set_option maxRecDepth 8000 in
theorem b212_107 {x1 x2 x3 x4 : Int} (h : Cl sc d 190 [vr 1835] (z_cfg t, I, J) (z_k sc d mt_212 false 108 [vr 1835, vi x1, vi x2, vi x3, vi x4] [] Q)) : Go sc d mt_212 107 [vr 1835, vi x1, vi x2, vi x3, vi x4] [] (z_cfg t, I, J) Q := by
  obtain ⟨ts, te, tt, b1, b2, b3, b4, b5, b6⟩ := t
  · exact z_sound (f := false) (cuts := [4, 18, 50, 75, 95, 96, 117, 120]) 300 107 [vr 1835, vi x1, vi x2, vi x3, vi x4] [] (z_tab (ts, te, tt, b1, b2, b3, b4, b5, b6) ++ t_l (ts, te, tt, b1, b2, b3, b4, b5, b6), t_s (ts, te, tt, b1, b2, b3, b4, b5, b6), I, J) h
set_option maxRecDepth 8000 in
theorem b212_111 {x1 x2 x3 x4 : Int} (h : Cl sc d 211 [vr 1835] (z_cfg t, I, J) (z_k sc d mt_212 false 112 [vr 1835, vi x1, vi x2, vi x3, vi x4] [] Q)) : Go sc d mt_212 111 [vr 1835, vi x1, vi x2, vi x3, vi x4] [] (z_cfg t, I, J) Q := by
  obtain ⟨ts, te, tt, b1, b2, b3, b4, b5, b6⟩ := t
  · exact z_sound (f := false) (cuts := [4, 18, 50, 75, 95, 96, 117, 120]) 300 111 [vr 1835, vi x1, vi x2, vi x3, vi x4] [] (z_tab (ts, te, tt, b1, b2, b3, b4, b5, b6) ++ t_l (ts, te, tt, b1, b2, b3, b4, b5, b6), t_s (ts, te, tt, b1, b2, b3, b4, b5, b6), I, J) h
set_option maxRecDepth 8000 in
theorem b212_115 {x1 x2 x3 x4 : Int} (h : Go sc d mt_212 117 [vr 1835, vi x1, vi 1, vi x3, vi x4] [] (z_cfg t, I, J) Q) : Go sc d mt_212 115 [vr 1835, vi x1, vi x2, vi x3, vi x4] [] (z_cfg t, I, J) Q := by
  obtain ⟨ts, te, tt, b1, b2, b3, b4, b5, b6⟩ := t
  · exact z_sound (f := false) (cuts := [4, 18, 50, 75, 95, 96, 117, 120]) 300 115 [vr 1835, vi x1, vi x2, vi x3, vi x4] [] (z_tab (ts, te, tt, b1, b2, b3, b4, b5, b6) ++ t_l (ts, te, tt, b1, b2, b3, b4, b5, b6), t_s (ts, te, tt, b1, b2, b3, b4, b5, b6), I, J) h
set_option maxRecDepth 8000 in
theorem b212_117 {x1 x2 x3 x4 : Int} (h : Go sc d mt_212 4 [vr 1835, vi x1, vi x2, vi x3, vi x4] [] (z_cfg t, I, J) Q) : Go sc d mt_212 117 [vr 1835, vi x1, vi x2, vi x3, vi x4] [] (z_cfg t, I, J) Q := by
  obtain ⟨ts, te, tt, b1, b2, b3, b4, b5, b6⟩ := t
  · exact z_sound (f := false) (cuts := [4, 18, 50, 75, 95, 96, 117, 120]) 300 117 [vr 1835, vi x1, vi x2, vi x3, vi x4] [] (z_tab (ts, te, tt, b1, b2, b3, b4, b5, b6) ++ t_l (ts, te, tt, b1, b2, b3, b4, b5, b6), t_s (ts, te, tt, b1, b2, b3, b4, b5, b6), I, J) h
set_option maxRecDepth 8000 in
theorem b212_120 {x1 x2 x3 : Int} {v4 : zV} (h : Cl sc d 214 [vr 1835] (z_cfg t, I, J) (z_k sc d mt_212 false 121 [vr 1835, vi x1, vi x2, vi x3, v4] [] Q)) : Go sc d mt_212 120 [vr 1835, vi x1, vi x2, vi x3, v4] [] (z_cfg t, I, J) Q := by
  obtain ⟨ts, te, tt, b1, b2, b3, b4, b5, b6⟩ := t
  · exact z_sound (f := false) (cuts := [4, 18, 50, 75, 95, 96, 117, 120]) 300 120 [vr 1835, vi x1, vi x2, vi x3, v4] [] (z_tab (ts, te, tt, b1, b2, b3, b4, b5, b6) ++ t_l (ts, te, tt, b1, b2, b3, b4, b5, b6), t_s (ts, te, tt, b1, b2, b3, b4, b5, b6), I, J) h
set_option maxRecDepth 8000 in
theorem b212_124 {x1 x2 x3 : Int} {v4 : zV} (h : Q (.inl none) (z_cfg t, I, J)) : Go sc d mt_212 124 [vr 1835, vi x1, vi x2, vi x3, v4] [] (z_cfg t, I, J) Q := by
  obtain ⟨ts, te, tt, b1, b2, b3, b4, b5, b6⟩ := t
  · exact z_sound (f := false) (cuts := [4, 18, 50, 75, 95, 96, 117, 120]) 300 124 [vr 1835, vi x1, vi x2, vi x3, v4] [] (z_tab (ts, te, tt, b1, b2, b3, b4, b5, b6) ++ t_l (ts, te, tt, b1, b2, b3, b4, b5, b6), t_s (ts, te, tt, b1, b2, b3, b4, b5, b6), I, J) h
theorem c212 {x1 : Int} {w : zW} {K : zR → zW → Prop} (hd : 1 ≤ d) (h : ∀ d', d = d' + 1 → Go sc d' mt_212 0 [vr 1835, vi x1, vn, vn, vn] [] w K) : Cl sc d 212 [vr 1835, vi x1] w K := Cl_of rfl hd h
/-! FerryHallModel waitsFor (I)V -/
set_option maxRecDepth 8000 in
theorem b213_0 {x1 : Int} (h : (0 ≤ I 1835 35 ∧ I 1835 35 < 720) ∧ Q (.inl none) (z_cfg t, z_u (z_u I 2516 (I 1835 35).toNat x1) 1835 35 ((I 1835 35) + 1), J)) : Go sc d mt_213 0 [vr 1835, vi x1] [] (z_cfg t, I, J) Q := by
  obtain ⟨ts, te, tt, b1, b2, b3, b4, b5, b6⟩ := t
  · exact z_sound (f := false) (cuts := []) 300 0 [vr 1835, vi x1] [] (z_tab (ts, te, tt, b1, b2, b3, b4, b5, b6) ++ t_l (ts, te, tt, b1, b2, b3, b4, b5, b6), t_s (ts, te, tt, b1, b2, b3, b4, b5, b6), I, J) h
theorem c213 {x1 : Int} {w : zW} {K : zR → zW → Prop} (hd : 1 ≤ d) (h : ∀ d', d = d' + 1 → Go sc d' mt_213 0 [vr 1835, vi x1] [] w K) : Cl sc d 213 [vr 1835, vi x1] w K := Cl_of rfl hd h
/-! FerryHallModel part ()V -/
set_option maxRecDepth 8000 in
theorem b214_0 (h : Cl sc d 198 [vr 1835] (z_cfg t, I, J) (z_k sc d mt_214 false 1 [vr 1835, vn, vn] [] Q)) : Go sc d mt_214 0 [vr 1835, vn, vn] [] (z_cfg t, I, J) Q := by
  obtain ⟨ts, te, tt, b1, b2, b3, b4, b5, b6⟩ := t
  · exact z_sound (f := false) (cuts := [29, 93, 98, 116, 141, 170, 181]) 300 0 [vr 1835, vn, vn] [] (z_tab (ts, te, tt, b1, b2, b3, b4, b5, b6) ++ t_l (ts, te, tt, b1, b2, b3, b4, b5, b6), t_s (ts, te, tt, b1, b2, b3, b4, b5, b6), I, J) h
set_option maxRecDepth 8000 in
theorem b214_4 {s0 : Int} (h : (inR s0) ∧ ((s0 = 0 → Q (.inl none) (z_cfg t, I, J)) ∧ (¬ s0 = 0 → (inR (I 1835 23)) ∧ ((I 1835 23 = (2 : Int) → (inR (I 1835 25)) ∧ (((3 : Int) < I 1835 25 → Cl sc d 199 [vr 1835, vi 2] (z_cfg t, I, J) (z_k sc d mt_214 false 26 [vr 1835, vn, vn] [] Q)) ∧ (¬ (3 : Int) < I 1835 25 → Go sc d mt_214 29 [vr 1835, vn, vn] [] (z_cfg t, I, J) Q))) ∧ (¬ I 1835 23 = (2 : Int) → (I 1835 23 = (1 : Int) → Cl sc d 194 [vr 1835] (z_cfg t, I, J) (z_k sc d mt_214 false 54 [vr 1835, vn, vn] [] Q)) ∧ (¬ I 1835 23 = (1 : Int) → Cl sc d 199 [vr 1835, vi 1] (z_cfg t, I, J) (z_k sc d mt_214 false 178 [vr 1835, vn, vn] [] Q))))))) : Go sc d mt_214 4 [vr 1835, vn, vn] [vi s0] (z_cfg t, I, J) Q := by
  obtain ⟨ts, te, tt, b1, b2, b3, b4, b5, b6⟩ := t
  · exact z_sound (f := false) (cuts := [29, 93, 98, 116, 141, 170, 181]) 300 4 [vr 1835, vn, vn] [vi s0] (z_tab (ts, te, tt, b1, b2, b3, b4, b5, b6) ++ t_l (ts, te, tt, b1, b2, b3, b4, b5, b6), t_s (ts, te, tt, b1, b2, b3, b4, b5, b6), I, J) (show (inR s0) ∧ ((s0 = 0 → Q (.inl none) (z_cfg (ts, te, tt, b1, b2, b3, b4, b5, b6), I, J)) ∧ (¬ s0 = 0 → (inR (I 1835 23)) ∧ (inR 2) ∧ ((I 1835 23 = (2 : Int) → (inR (I 1835 25)) ∧ (inR 3) ∧ (((3 : Int) < I 1835 25 → Cl sc d 199 [vr 1835, vi 2] (z_cfg (ts, te, tt, b1, b2, b3, b4, b5, b6), I, J) (z_k sc d mt_214 false 26 [vr 1835, vn, vn] [] Q)) ∧ (¬ (3 : Int) < I 1835 25 → Go sc d mt_214 29 [vr 1835, vn, vn] [] (z_cfg (ts, te, tt, b1, b2, b3, b4, b5, b6), I, J) Q))) ∧ (¬ I 1835 23 = (2 : Int) → (inR (I 1835 23)) ∧ (inR 1) ∧ ((I 1835 23 = (1 : Int) → Cl sc d 194 [vr 1835] (z_cfg (ts, te, tt, b1, b2, b3, b4, b5, b6), I, J) (z_k sc d mt_214 false 54 [vr 1835, vn, vn] [] Q)) ∧ (¬ I 1835 23 = (1 : Int) → Cl sc d 199 [vr 1835, vi 1] (z_cfg (ts, te, tt, b1, b2, b3, b4, b5, b6), I, J) (z_k sc d mt_214 false 178 [vr 1835, vn, vn] [] Q))))))) from ⟨h.1, ⟨fun c0 => (h.2.1 c0), fun c0 => ⟨(h.2.2 c0).1, ⟨⟨by decide, by decide⟩, ⟨fun c1 => ⟨((h.2.2 c0).2.1 c1).1, ⟨⟨by decide, by decide⟩, ⟨fun c2 => (((h.2.2 c0).2.1 c1).2.1 c2), fun c2 => (((h.2.2 c0).2.1 c1).2.2 c2)⟩⟩⟩, fun c1 => ⟨(h.2.2 c0).1, ⟨⟨by decide, by decide⟩, ⟨fun c2 => (((h.2.2 c0).2.2 c1).1 c2), fun c2 => (((h.2.2 c0).2.2 c1).2 c2)⟩⟩⟩⟩⟩⟩⟩⟩)
set_option maxRecDepth 8000 in
theorem b214_29 (h : Cl sc d 215 [vr 1835, vi 1] (z_cfg t, I, J) (z_k sc d mt_214 false 31 [vr 1835, vn, vn] [] Q)) : Go sc d mt_214 29 [vr 1835, vn, vn] [] (z_cfg t, I, J) Q := by
  obtain ⟨ts, te, tt, b1, b2, b3, b4, b5, b6⟩ := t
  · exact z_sound (f := false) (cuts := [29, 93, 98, 116, 141, 170, 181]) 300 29 [vr 1835, vn, vn] [] (z_tab (ts, te, tt, b1, b2, b3, b4, b5, b6) ++ t_l (ts, te, tt, b1, b2, b3, b4, b5, b6), t_s (ts, te, tt, b1, b2, b3, b4, b5, b6), I, J) h
set_option maxRecDepth 8000 in
theorem b214_34 (h : Cl sc d 215 [vr 1835, vi (I 1835 26)] (z_cfg t, I, J) (z_k sc d mt_214 false 39 [vr 1835, vn, vn] [] Q)) : Go sc d mt_214 34 [vr 1835, vn, vn] [] (z_cfg t, I, J) Q := by
  obtain ⟨ts, te, tt, b1, b2, b3, b4, b5, b6⟩ := t
  · exact z_sound (f := false) (cuts := [29, 93, 98, 116, 141, 170, 181]) 300 34 [vr 1835, vn, vn] [] (z_tab (ts, te, tt, b1, b2, b3, b4, b5, b6) ++ t_l (ts, te, tt, b1, b2, b3, b4, b5, b6), t_s (ts, te, tt, b1, b2, b3, b4, b5, b6), I, J) h
set_option maxRecDepth 8000 in
theorem b214_42 (h : Go sc d mt_214 181 [vr 1835, vn, vn] [] (z_cfg t, I, J) Q) : Go sc d mt_214 42 [vr 1835, vn, vn] [] (z_cfg t, I, J) Q := by
  obtain ⟨ts, te, tt, b1, b2, b3, b4, b5, b6⟩ := t
  · exact z_sound (f := false) (cuts := [29, 93, 98, 116, 141, 170, 181]) 300 42 [vr 1835, vn, vn] [] (z_tab (ts, te, tt, b1, b2, b3, b4, b5, b6) ++ t_l (ts, te, tt, b1, b2, b3, b4, b5, b6), t_s (ts, te, tt, b1, b2, b3, b4, b5, b6), I, J) h
set_option maxRecDepth 8000 in
theorem b214_57 {s0 : Int} (h : (inR s0) ∧ ((s0 = (17 : Int) → Go sc d mt_214 93 [vr 1835, vi s0, vn] [] (z_cfg t, I, J) Q) ∧ (¬ s0 = (17 : Int) → (s0 = (7 : Int) → Go sc d mt_214 93 [vr 1835, vi s0, vn] [] (z_cfg t, I, J) Q) ∧ (¬ s0 = (7 : Int) → (s0 = (18 : Int) → Go sc d mt_214 93 [vr 1835, vi s0, vn] [] (z_cfg t, I, J) Q) ∧ (¬ s0 = (18 : Int) → (s0 = (19 : Int) → Go sc d mt_214 93 [vr 1835, vi s0, vn] [] (z_cfg t, I, J) Q) ∧ (¬ s0 = (19 : Int) → (s0 = (5 : Int) → Go sc d mt_214 93 [vr 1835, vi s0, vn] [] (z_cfg t, I, J) Q) ∧ (¬ s0 = (5 : Int) → (s0 = (20 : Int) → Go sc d mt_214 93 [vr 1835, vi s0, vn] [] (z_cfg t, I, J) Q) ∧ (¬ s0 = (20 : Int) → Go sc d mt_214 98 [vr 1835, vi s0, vn] [vi 0] (z_cfg t, I, J) Q)))))))) : Go sc d mt_214 57 [vr 1835, vn, vn] [vi s0] (z_cfg t, I, J) Q := by
  obtain ⟨ts, te, tt, b1, b2, b3, b4, b5, b6⟩ := t
  · exact z_sound (f := false) (cuts := [29, 93, 98, 116, 141, 170, 181]) 300 57 [vr 1835, vn, vn] [vi s0] (z_tab (ts, te, tt, b1, b2, b3, b4, b5, b6) ++ t_l (ts, te, tt, b1, b2, b3, b4, b5, b6), t_s (ts, te, tt, b1, b2, b3, b4, b5, b6), I, J) (show (inR s0) ∧ (inR 17) ∧ ((s0 = (17 : Int) → Go sc d mt_214 93 [vr 1835, vi s0, vn] [] (z_cfg (ts, te, tt, b1, b2, b3, b4, b5, b6), I, J) Q) ∧ (¬ s0 = (17 : Int) → (inR s0) ∧ (inR 7) ∧ ((s0 = (7 : Int) → Go sc d mt_214 93 [vr 1835, vi s0, vn] [] (z_cfg (ts, te, tt, b1, b2, b3, b4, b5, b6), I, J) Q) ∧ (¬ s0 = (7 : Int) → (inR s0) ∧ (inR 18) ∧ ((s0 = (18 : Int) → Go sc d mt_214 93 [vr 1835, vi s0, vn] [] (z_cfg (ts, te, tt, b1, b2, b3, b4, b5, b6), I, J) Q) ∧ (¬ s0 = (18 : Int) → (inR s0) ∧ (inR 19) ∧ ((s0 = (19 : Int) → Go sc d mt_214 93 [vr 1835, vi s0, vn] [] (z_cfg (ts, te, tt, b1, b2, b3, b4, b5, b6), I, J) Q) ∧ (¬ s0 = (19 : Int) → (inR s0) ∧ (inR 5) ∧ ((s0 = (5 : Int) → Go sc d mt_214 93 [vr 1835, vi s0, vn] [] (z_cfg (ts, te, tt, b1, b2, b3, b4, b5, b6), I, J) Q) ∧ (¬ s0 = (5 : Int) → (inR s0) ∧ (inR 20) ∧ ((s0 = (20 : Int) → Go sc d mt_214 93 [vr 1835, vi s0, vn] [] (z_cfg (ts, te, tt, b1, b2, b3, b4, b5, b6), I, J) Q) ∧ (¬ s0 = (20 : Int) → Go sc d mt_214 98 [vr 1835, vi s0, vn] [vi 0] (z_cfg (ts, te, tt, b1, b2, b3, b4, b5, b6), I, J) Q)))))))))))) from ⟨h.1, ⟨⟨by decide, by decide⟩, ⟨fun c0 => (h.2.1 c0), fun c0 => ⟨h.1, ⟨⟨by decide, by decide⟩, ⟨fun c1 => ((h.2.2 c0).1 c1), fun c1 => ⟨h.1, ⟨⟨by decide, by decide⟩, ⟨fun c2 => (((h.2.2 c0).2 c1).1 c2), fun c2 => ⟨h.1, ⟨⟨by decide, by decide⟩, ⟨fun c3 => ((((h.2.2 c0).2 c1).2 c2).1 c3), fun c3 => ⟨h.1, ⟨⟨by decide, by decide⟩, ⟨fun c4 => (((((h.2.2 c0).2 c1).2 c2).2 c3).1 c4), fun c4 => ⟨h.1, ⟨⟨by decide, by decide⟩, ⟨fun c5 => ((((((h.2.2 c0).2 c1).2 c2).2 c3).2 c4).1 c5), fun c5 => ((((((h.2.2 c0).2 c1).2 c2).2 c3).2 c4).2 c5)⟩⟩⟩⟩⟩⟩⟩⟩⟩⟩⟩⟩⟩⟩⟩⟩⟩⟩)
set_option maxRecDepth 8000 in
theorem b214_93 {x1 : Int} (h : Go sc d mt_214 98 [vr 1835, vi x1, vn] [vi 1] (z_cfg t, I, J) Q) : Go sc d mt_214 93 [vr 1835, vi x1, vn] [] (z_cfg t, I, J) Q := by
  obtain ⟨ts, te, tt, b1, b2, b3, b4, b5, b6⟩ := t
  · exact z_sound (f := false) (cuts := [29, 93, 98, 116, 141, 170, 181]) 300 93 [vr 1835, vi x1, vn] [] (z_tab (ts, te, tt, b1, b2, b3, b4, b5, b6) ++ t_l (ts, te, tt, b1, b2, b3, b4, b5, b6), t_s (ts, te, tt, b1, b2, b3, b4, b5, b6), I, J) h
set_option maxRecDepth 8000 in
theorem b214_98 {x1 s0 : Int} (h : (inR (I 1835 25)) ∧ (((1 : Int) < I 1835 25 → (inR s0) ∧ ((s0 = 0 → Cl sc d 199 [vr 1835, vi 3] (z_cfg t, I, J) (z_k sc d mt_214 false 113 [vr 1835, vi x1, vi s0] [] Q)) ∧ (¬ s0 = 0 → Go sc d mt_214 116 [vr 1835, vi x1, vi s0] [] (z_cfg t, I, J) Q))) ∧ (¬ (1 : Int) < I 1835 25 → Go sc d mt_214 116 [vr 1835, vi x1, vi s0] [] (z_cfg t, I, J) Q))) : Go sc d mt_214 98 [vr 1835, vi x1, vn] [vi s0] (z_cfg t, I, J) Q := by
  obtain ⟨ts, te, tt, b1, b2, b3, b4, b5, b6⟩ := t
  · exact z_sound (f := false) (cuts := [29, 93, 98, 116, 141, 170, 181]) 300 98 [vr 1835, vi x1, vn] [vi s0] (z_tab (ts, te, tt, b1, b2, b3, b4, b5, b6) ++ t_l (ts, te, tt, b1, b2, b3, b4, b5, b6), t_s (ts, te, tt, b1, b2, b3, b4, b5, b6), I, J) (show (inR (I 1835 25)) ∧ (inR 1) ∧ (((1 : Int) < I 1835 25 → (inR s0) ∧ ((s0 = 0 → Cl sc d 199 [vr 1835, vi 3] (z_cfg (ts, te, tt, b1, b2, b3, b4, b5, b6), I, J) (z_k sc d mt_214 false 113 [vr 1835, vi x1, vi s0] [] Q)) ∧ (¬ s0 = 0 → Go sc d mt_214 116 [vr 1835, vi x1, vi s0] [] (z_cfg (ts, te, tt, b1, b2, b3, b4, b5, b6), I, J) Q))) ∧ (¬ (1 : Int) < I 1835 25 → Go sc d mt_214 116 [vr 1835, vi x1, vi s0] [] (z_cfg (ts, te, tt, b1, b2, b3, b4, b5, b6), I, J) Q)) from ⟨h.1, ⟨⟨by decide, by decide⟩, ⟨fun c0 => ⟨(h.2.1 c0).1, ⟨fun c1 => ((h.2.1 c0).2.1 c1), fun c1 => ((h.2.1 c0).2.2 c1)⟩⟩, fun c0 => (h.2.2 c0)⟩⟩⟩)
set_option maxRecDepth 8000 in
theorem b214_116 {x1 x2 : Int} (h : (inR (I 1835 25)) ∧ ((I 1835 25 = (1 : Int) → Cl sc d 203 [vr 1835, vi (I 1835 27)] (z_cfg t, I, J) (z_k sc d mt_214 false 129 [vr 1835, vi x1, vi x2] [] Q)) ∧ (¬ I 1835 25 = (1 : Int) → Go sc d mt_214 141 [vr 1835, vi x1, vi x2] [] (z_cfg t, I, J) Q))) : Go sc d mt_214 116 [vr 1835, vi x1, vi x2] [] (z_cfg t, I, J) Q := by
  obtain ⟨ts, te, tt, b1, b2, b3, b4, b5, b6⟩ := t
  · exact z_sound (f := false) (cuts := [29, 93, 98, 116, 141, 170, 181]) 300 116 [vr 1835, vi x1, vi x2] [] (z_tab (ts, te, tt, b1, b2, b3, b4, b5, b6) ++ t_l (ts, te, tt, b1, b2, b3, b4, b5, b6), t_s (ts, te, tt, b1, b2, b3, b4, b5, b6), I, J) (show (inR (I 1835 25)) ∧ (inR 1) ∧ ((I 1835 25 = (1 : Int) → Cl sc d 203 [vr 1835, vi (I 1835 27)] (z_cfg (ts, te, tt, b1, b2, b3, b4, b5, b6), I, J) (z_k sc d mt_214 false 129 [vr 1835, vi x1, vi x2] [] Q)) ∧ (¬ I 1835 25 = (1 : Int) → Go sc d mt_214 141 [vr 1835, vi x1, vi x2] [] (z_cfg (ts, te, tt, b1, b2, b3, b4, b5, b6), I, J) Q)) from ⟨h.1, ⟨⟨by decide, by decide⟩, ⟨fun c0 => (h.2.1 c0), fun c0 => (h.2.2 c0)⟩⟩⟩)
set_option maxRecDepth 8000 in
theorem b214_132 {x1 x2 s0 : Int} (h : (inR s0) ∧ ((s0 = ((-1) : Int) → Cl sc d 199 [vr 1835, vi 4] (z_cfg t, I, J) (z_k sc d mt_214 false 138 [vr 1835, vi x1, vi x2] [] Q)) ∧ (¬ s0 = ((-1) : Int) → Go sc d mt_214 141 [vr 1835, vi x1, vi x2] [] (z_cfg t, I, J) Q))) : Go sc d mt_214 132 [vr 1835, vi x1, vi x2] [vi s0] (z_cfg t, I, J) Q := by
  obtain ⟨ts, te, tt, b1, b2, b3, b4, b5, b6⟩ := t
  · exact z_sound (f := false) (cuts := [29, 93, 98, 116, 141, 170, 181]) 300 132 [vr 1835, vi x1, vi x2] [vi s0] (z_tab (ts, te, tt, b1, b2, b3, b4, b5, b6) ++ t_l (ts, te, tt, b1, b2, b3, b4, b5, b6), t_s (ts, te, tt, b1, b2, b3, b4, b5, b6), I, J) (show (inR s0) ∧ (inR (-1)) ∧ ((s0 = ((-1) : Int) → Cl sc d 199 [vr 1835, vi 4] (z_cfg (ts, te, tt, b1, b2, b3, b4, b5, b6), I, J) (z_k sc d mt_214 false 138 [vr 1835, vi x1, vi x2] [] Q)) ∧ (¬ s0 = ((-1) : Int) → Go sc d mt_214 141 [vr 1835, vi x1, vi x2] [] (z_cfg (ts, te, tt, b1, b2, b3, b4, b5, b6), I, J) Q)) from ⟨h.1, ⟨⟨by decide, by decide⟩, ⟨fun c0 => (h.2.1 c0), fun c0 => (h.2.2 c0)⟩⟩⟩)
set_option maxRecDepth 8000 in
theorem b214_141 {x1 x2 : Int} (h : Cl sc d 215 [vr 1835, vi 2] (z_cfg t, I, J) (z_k sc d mt_214 false 143 [vr 1835, vi x1, vi x2] [] Q)) : Go sc d mt_214 141 [vr 1835, vi x1, vi x2] [] (z_cfg t, I, J) Q := by
  obtain ⟨ts, te, tt, b1, b2, b3, b4, b5, b6⟩ := t
  · exact z_sound (f := false) (cuts := [29, 93, 98, 116, 141, 170, 181]) 300 141 [vr 1835, vi x1, vi x2] [] (z_tab (ts, te, tt, b1, b2, b3, b4, b5, b6) ++ t_l (ts, te, tt, b1, b2, b3, b4, b5, b6), t_s (ts, te, tt, b1, b2, b3, b4, b5, b6), I, J) h
set_option maxRecDepth 8000 in
theorem b214_146 {x1 x2 : Int} (h : (inR (I 1835 25)) ∧ ((I 1835 25 = (1 : Int) → Cl sc d 203 [vr 1835, vi (I 1835 27)] (z_cfg t, I, J) (z_k sc d mt_214 false 160 [vr 1835, vi x1, vi x2] [vr 1835] Q)) ∧ (¬ I 1835 25 = (1 : Int) → Go sc d mt_214 170 [vr 1835, vi x1, vi x2] [vi (100 + x1), vr 1835] (z_cfg t, I, J) Q))) : Go sc d mt_214 146 [vr 1835, vi x1, vi x2] [] (z_cfg t, I, J) Q := by
  obtain ⟨ts, te, tt, b1, b2, b3, b4, b5, b6⟩ := t
  · exact z_sound (f := false) (cuts := [29, 93, 98, 116, 141, 170, 181]) 300 146 [vr 1835, vi x1, vi x2] [] (z_tab (ts, te, tt, b1, b2, b3, b4, b5, b6) ++ t_l (ts, te, tt, b1, b2, b3, b4, b5, b6), t_s (ts, te, tt, b1, b2, b3, b4, b5, b6), I, J) (show (inR (I 1835 25)) ∧ (inR 1) ∧ ((I 1835 25 = (1 : Int) → Cl sc d 203 [vr 1835, vi (I 1835 27)] (z_cfg (ts, te, tt, b1, b2, b3, b4, b5, b6), I, J) (z_k sc d mt_214 false 160 [vr 1835, vi x1, vi x2] [vr 1835] Q)) ∧ (¬ I 1835 25 = (1 : Int) → Go sc d mt_214 170 [vr 1835, vi x1, vi x2] [vi (100 + x1), vr 1835] (z_cfg (ts, te, tt, b1, b2, b3, b4, b5, b6), I, J) Q)) from ⟨h.1, ⟨⟨by decide, by decide⟩, ⟨fun c0 => (h.2.1 c0), fun c0 => (h.2.2 c0)⟩⟩⟩)
set_option maxRecDepth 8000 in
theorem b214_163 {x1 x2 s0 : Int} (h : Go sc d mt_214 170 [vr 1835, vi x1, vi x2] [vi s0, vr 1835] (z_cfg t, I, J) Q) : Go sc d mt_214 163 [vr 1835, vi x1, vi x2] [vi s0, vr 1835] (z_cfg t, I, J) Q := by
  obtain ⟨ts, te, tt, b1, b2, b3, b4, b5, b6⟩ := t
  · exact z_sound (f := false) (cuts := [29, 93, 98, 116, 141, 170, 181]) 300 163 [vr 1835, vi x1, vi x2] [vi s0, vr 1835] (z_tab (ts, te, tt, b1, b2, b3, b4, b5, b6) ++ t_l (ts, te, tt, b1, b2, b3, b4, b5, b6), t_s (ts, te, tt, b1, b2, b3, b4, b5, b6), I, J) h
set_option maxRecDepth 8000 in
theorem b214_170 {x1 x2 s0 : Int} (h : Cl sc d 215 [vr 1835, vi s0] (z_cfg t, I, J) (z_k sc d mt_214 false 170 [vr 1835, vi x1, vi x2] [] Q)) : Go sc d mt_214 170 [vr 1835, vi x1, vi x2] [vi s0, vr 1835] (z_cfg t, I, J) Q := by
  obtain ⟨ts, te, tt, b1, b2, b3, b4, b5, b6⟩ := t
  · exact z_sound (f := false) (cuts := [29, 93, 98, 116, 141, 170, 181]) 300 170 [vr 1835, vi x1, vi x2] [vi s0, vr 1835] (z_tab (ts, te, tt, b1, b2, b3, b4, b5, b6) ++ t_l (ts, te, tt, b1, b2, b3, b4, b5, b6), t_s (ts, te, tt, b1, b2, b3, b4, b5, b6), I, J) h
set_option maxRecDepth 8000 in
theorem b214_173 {x1 x2 : Int} (h : Go sc d mt_214 181 [vr 1835, vi x1, vi x2] [] (z_cfg t, I, J) Q) : Go sc d mt_214 173 [vr 1835, vi x1, vi x2] [] (z_cfg t, I, J) Q := by
  obtain ⟨ts, te, tt, b1, b2, b3, b4, b5, b6⟩ := t
  · exact z_sound (f := false) (cuts := [29, 93, 98, 116, 141, 170, 181]) 300 173 [vr 1835, vi x1, vi x2] [] (z_tab (ts, te, tt, b1, b2, b3, b4, b5, b6) ++ t_l (ts, te, tt, b1, b2, b3, b4, b5, b6), t_s (ts, te, tt, b1, b2, b3, b4, b5, b6), I, J) h
set_option maxRecDepth 8000 in
theorem b214_181 {v1 v2 : zV} (h : Cl sc d 198 [vr 1835] (z_cfg t, I, J) (z_k sc d mt_214 false 182 [vr 1835, v1, v2] [] Q)) : Go sc d mt_214 181 [vr 1835, v1, v2] [] (z_cfg t, I, J) Q := by
  obtain ⟨ts, te, tt, b1, b2, b3, b4, b5, b6⟩ := t
  · exact z_sound (f := false) (cuts := [29, 93, 98, 116, 141, 170, 181]) 300 181 [vr 1835, v1, v2] [] (z_tab (ts, te, tt, b1, b2, b3, b4, b5, b6) ++ t_l (ts, te, tt, b1, b2, b3, b4, b5, b6), t_s (ts, te, tt, b1, b2, b3, b4, b5, b6), I, J) h
set_option maxRecDepth 8000 in
theorem b214_185 {s0 : Int} {v1 v2 : zV} (h : (inR s0) ∧ ((s0 = 0 → Q (.inl none) (z_cfg t, I, J)) ∧ (¬ s0 = 0 → Cl sc d 190 [vr 1835] (z_cfg t, I, J) (z_k sc d mt_214 false 189 [vr 1835, v1, v2] [] Q)))) : Go sc d mt_214 185 [vr 1835, v1, v2] [vi s0] (z_cfg t, I, J) Q := by
  obtain ⟨ts, te, tt, b1, b2, b3, b4, b5, b6⟩ := t
  · exact z_sound (f := false) (cuts := [29, 93, 98, 116, 141, 170, 181]) 300 185 [vr 1835, v1, v2] [vi s0] (z_tab (ts, te, tt, b1, b2, b3, b4, b5, b6) ++ t_l (ts, te, tt, b1, b2, b3, b4, b5, b6), t_s (ts, te, tt, b1, b2, b3, b4, b5, b6), I, J) h
set_option maxRecDepth 8000 in
theorem b214_192 {v1 v2 : zV} (h : Q (.inl none) (z_cfg t, I, J)) : Go sc d mt_214 192 [vr 1835, v1, v2] [] (z_cfg t, I, J) Q := by
  obtain ⟨ts, te, tt, b1, b2, b3, b4, b5, b6⟩ := t
  · exact z_sound (f := false) (cuts := [29, 93, 98, 116, 141, 170, 181]) 300 192 [vr 1835, v1, v2] [] (z_tab (ts, te, tt, b1, b2, b3, b4, b5, b6) ++ t_l (ts, te, tt, b1, b2, b3, b4, b5, b6), t_s (ts, te, tt, b1, b2, b3, b4, b5, b6), I, J) h
theorem c214 {w : zW} {K : zR → zW → Prop} (hd : 1 ≤ d) (h : ∀ d', d = d' + 1 → Go sc d' mt_214 0 [vr 1835, vn, vn] [] w K) : Cl sc d 214 [vr 1835] w K := Cl_of rfl hd h
/-! FerryHallModel puts (I)V -/
set_option maxRecDepth 8000 in
theorem b215_0 {x1 : Int} (h : (0 ≤ I 1835 34 ∧ I 1835 34 < 1200) ∧ Q (.inl none) (z_cfg t, z_u (z_u I 2484 (I 1835 34).toNat x1) 1835 34 ((I 1835 34) + 1), J)) : Go sc d mt_215 0 [vr 1835, vi x1] [] (z_cfg t, I, J) Q := by
  obtain ⟨ts, te, tt, b1, b2, b3, b4, b5, b6⟩ := t
  · exact z_sound (f := false) (cuts := []) 300 0 [vr 1835, vi x1] [] (z_tab (ts, te, tt, b1, b2, b3, b4, b5, b6) ++ t_l (ts, te, tt, b1, b2, b3, b4, b5, b6), t_s (ts, te, tt, b1, b2, b3, b4, b5, b6), I, J) h
theorem c215 {x1 : Int} {w : zW} {K : zR → zW → Prop} (hd : 1 ≤ d) (h : ∀ d', d = d' + 1 → Go sc d' mt_215 0 [vr 1835, vi x1] [] w K) : Cl sc d 215 [vr 1835, vi x1] w K := Cl_of rfl hd h
/-! FerryHallModel drops (I)V -/
set_option maxRecDepth 8000 in
theorem b216_0 {x1 : Int} (h : (inR (I 1835 35)) ∧ ((0 < I 1835 35 → (0 ≤ (I 1835 35) - 1 ∧ (I 1835 35) - 1 < 720) ∧ ((inR (I 2516 ((I 1835 35) - 1).toNat)) ∧ ((I 2516 ((I 1835 35) - 1).toNat = (12 : Int) → Q (.inl none) (z_cfg t, I, J)) ∧ (¬ I 2516 ((I 1835 35) - 1).toNat = (12 : Int) → Cl sc d 217 [vi (I 2516 ((I 1835 35) - 1).toNat)] (z_cfg t, I, J) (z_k sc d mt_216 false 34 [vr 1835, vi x1] [] Q))))) ∧ (¬ 0 < I 1835 35 → Q (.inl none) (z_cfg t, I, J)))) : Go sc d mt_216 0 [vr 1835, vi x1] [] (z_cfg t, I, J) Q := by
  obtain ⟨ts, te, tt, b1, b2, b3, b4, b5, b6⟩ := t
  · exact z_sound (f := false) (cuts := [0]) 300 0 [vr 1835, vi x1] [] (z_tab (ts, te, tt, b1, b2, b3, b4, b5, b6) ++ t_l (ts, te, tt, b1, b2, b3, b4, b5, b6), t_s (ts, te, tt, b1, b2, b3, b4, b5, b6), I, J) (show (inR (I 1835 35)) ∧ ((0 < I 1835 35 → (0 ≤ (I 1835 35) - 1 ∧ (I 1835 35) - 1 < 720) ∧ (inR (I 2516 ((I 1835 35) - 1).toNat)) ∧ (inR 12) ∧ ((I 2516 ((I 1835 35) - 1).toNat = (12 : Int) → Q (.inl none) (z_cfg (ts, te, tt, b1, b2, b3, b4, b5, b6), I, J)) ∧ (¬ I 2516 ((I 1835 35) - 1).toNat = (12 : Int) → (0 ≤ (I 1835 35) - 1 ∧ (I 1835 35) - 1 < 720) ∧ Cl sc d 217 [vi (I 2516 ((I 1835 35) - 1).toNat)] (z_cfg (ts, te, tt, b1, b2, b3, b4, b5, b6), I, J) (z_k sc d mt_216 false 34 [vr 1835, vi x1] [] Q)))) ∧ (¬ 0 < I 1835 35 → Q (.inl none) (z_cfg (ts, te, tt, b1, b2, b3, b4, b5, b6), I, J))) from ⟨h.1, ⟨fun c0 => ⟨(h.2.1 c0).1, ⟨(h.2.1 c0).2.1, ⟨⟨by decide, by decide⟩, ⟨fun c1 => ((h.2.1 c0).2.2.1 c1), fun c1 => ⟨(h.2.1 c0).1, ((h.2.1 c0).2.2.2 c1)⟩⟩⟩⟩⟩, fun c0 => (h.2.2 c0)⟩⟩)
set_option maxRecDepth 8000 in
theorem b216_37 {x1 s0 : Int} (h : (inR s0) ∧ ((inR x1) ∧ ((s0 < x1 → Q (.inl none) (z_cfg t, I, J)) ∧ (¬ s0 < x1 → (0 ≤ (I 1835 35) - 1 ∧ (I 1835 35) - 1 < 720) ∧ Cl sc d 215 [vr 1835, vi (I 2516 ((I 1835 35) - 1).toNat)] (z_cfg t, z_u I 1835 35 ((I 1835 35) - 1), J) (z_k sc d mt_216 false 61 [vr 1835, vi x1] [] Q))))) : Go sc d mt_216 37 [vr 1835, vi x1] [vi s0] (z_cfg t, I, J) Q := by
  obtain ⟨ts, te, tt, b1, b2, b3, b4, b5, b6⟩ := t
  · exact z_sound (f := false) (cuts := [0]) 300 37 [vr 1835, vi x1] [vi s0] (z_tab (ts, te, tt, b1, b2, b3, b4, b5, b6) ++ t_l (ts, te, tt, b1, b2, b3, b4, b5, b6), t_s (ts, te, tt, b1, b2, b3, b4, b5, b6), I, J) h
set_option maxRecDepth 8000 in
theorem b216_64 {x1 : Int} (h : Go sc d mt_216 0 [vr 1835, vi x1] [] (z_cfg t, I, J) Q) : Go sc d mt_216 64 [vr 1835, vi x1] [] (z_cfg t, I, J) Q := by
  obtain ⟨ts, te, tt, b1, b2, b3, b4, b5, b6⟩ := t
  · exact z_sound (f := false) (cuts := [0]) 300 64 [vr 1835, vi x1] [] (z_tab (ts, te, tt, b1, b2, b3, b4, b5, b6) ++ t_l (ts, te, tt, b1, b2, b3, b4, b5, b6), t_s (ts, te, tt, b1, b2, b3, b4, b5, b6), I, J) h
theorem c216 {x1 : Int} {w : zW} {K : zR → zW → Prop} (hd : 1 ≤ d) (h : ∀ d', d = d' + 1 → Go sc d' mt_216 0 [vr 1835, vi x1] [] w K) : Cl sc d 216 [vr 1835, vi x1] w K := Cl_of rfl hd h
/-! FerryHallModel strength (I)I -/
set_option maxRecDepth 8000 in
theorem b217_0 {x0 : Int} (h : (inR x0) ∧ ((x0 = (12 : Int) → Q (.inl (some (vi 0))) (z_cfg t, I, J)) ∧ (¬ x0 = (12 : Int) → (x0 = (5 : Int) → Q (.inl (some (vi 1))) (z_cfg t, I, J)) ∧ (¬ x0 = (5 : Int) → (x0 = (4 : Int) → Q (.inl (some (vi 2))) (z_cfg t, I, J)) ∧ (¬ x0 = (4 : Int) → (x0 = (3 : Int) → Q (.inl (some (vi 3))) (z_cfg t, I, J)) ∧ (¬ x0 = (3 : Int) → (x0 = (6 : Int) → Q (.inl (some (vi 4))) (z_cfg t, I, J)) ∧ (¬ x0 = (6 : Int) → (x0 = (7 : Int) → Q (.inl (some (vi 4))) (z_cfg t, I, J)) ∧ (¬ x0 = (7 : Int) → (x0 = (8 : Int) → Q (.inl (some (vi 5))) (z_cfg t, I, J)) ∧ (¬ x0 = (8 : Int) → (x0 = (9 : Int) → Q (.inl (some (vi 5))) (z_cfg t, I, J)) ∧ (¬ x0 = (9 : Int) → Q (.inl (some (vi 6))) (z_cfg t, I, J))))))))))) : Go sc d mt_217 0 [vi x0] [] (z_cfg t, I, J) Q := by
  obtain ⟨ts, te, tt, b1, b2, b3, b4, b5, b6⟩ := t
  · exact z_sound (f := false) (cuts := []) 300 0 [vi x0] [] (z_tab (ts, te, tt, b1, b2, b3, b4, b5, b6) ++ t_l (ts, te, tt, b1, b2, b3, b4, b5, b6), t_s (ts, te, tt, b1, b2, b3, b4, b5, b6), I, J) (show (inR x0) ∧ (inR 12) ∧ ((x0 = (12 : Int) → Q (.inl (some (vi 0))) (z_cfg (ts, te, tt, b1, b2, b3, b4, b5, b6), I, J)) ∧ (¬ x0 = (12 : Int) → (inR x0) ∧ (inR 5) ∧ ((x0 = (5 : Int) → Q (.inl (some (vi 1))) (z_cfg (ts, te, tt, b1, b2, b3, b4, b5, b6), I, J)) ∧ (¬ x0 = (5 : Int) → (inR x0) ∧ (inR 4) ∧ ((x0 = (4 : Int) → Q (.inl (some (vi 2))) (z_cfg (ts, te, tt, b1, b2, b3, b4, b5, b6), I, J)) ∧ (¬ x0 = (4 : Int) → (inR x0) ∧ (inR 3) ∧ ((x0 = (3 : Int) → Q (.inl (some (vi 3))) (z_cfg (ts, te, tt, b1, b2, b3, b4, b5, b6), I, J)) ∧ (¬ x0 = (3 : Int) → (inR x0) ∧ (inR 6) ∧ ((x0 = (6 : Int) → Q (.inl (some (vi 4))) (z_cfg (ts, te, tt, b1, b2, b3, b4, b5, b6), I, J)) ∧ (¬ x0 = (6 : Int) → (inR x0) ∧ (inR 7) ∧ ((x0 = (7 : Int) → Q (.inl (some (vi 4))) (z_cfg (ts, te, tt, b1, b2, b3, b4, b5, b6), I, J)) ∧ (¬ x0 = (7 : Int) → (inR x0) ∧ (inR 8) ∧ ((x0 = (8 : Int) → Q (.inl (some (vi 5))) (z_cfg (ts, te, tt, b1, b2, b3, b4, b5, b6), I, J)) ∧ (¬ x0 = (8 : Int) → (inR x0) ∧ (inR 9) ∧ ((x0 = (9 : Int) → Q (.inl (some (vi 5))) (z_cfg (ts, te, tt, b1, b2, b3, b4, b5, b6), I, J)) ∧ (¬ x0 = (9 : Int) → Q (.inl (some (vi 6))) (z_cfg (ts, te, tt, b1, b2, b3, b4, b5, b6), I, J))))))))))))))))) from ⟨h.1, ⟨⟨by decide, by decide⟩, ⟨fun c0 => (h.2.1 c0), fun c0 => ⟨h.1, ⟨⟨by decide, by decide⟩, ⟨fun c1 => ((h.2.2 c0).1 c1), fun c1 => ⟨h.1, ⟨⟨by decide, by decide⟩, ⟨fun c2 => (((h.2.2 c0).2 c1).1 c2), fun c2 => ⟨h.1, ⟨⟨by decide, by decide⟩, ⟨fun c3 => ((((h.2.2 c0).2 c1).2 c2).1 c3), fun c3 => ⟨h.1, ⟨⟨by decide, by decide⟩, ⟨fun c4 => (((((h.2.2 c0).2 c1).2 c2).2 c3).1 c4), fun c4 => ⟨h.1, ⟨⟨by decide, by decide⟩, ⟨fun c5 => ((((((h.2.2 c0).2 c1).2 c2).2 c3).2 c4).1 c5), fun c5 => ⟨h.1, ⟨⟨by decide, by decide⟩, ⟨fun c6 => (((((((h.2.2 c0).2 c1).2 c2).2 c3).2 c4).2 c5).1 c6), fun c6 => ⟨h.1, ⟨⟨by decide, by decide⟩, ⟨fun c7 => ((((((((h.2.2 c0).2 c1).2 c2).2 c3).2 c4).2 c5).2 c6).1 c7), fun c7 => ((((((((h.2.2 c0).2 c1).2 c2).2 c3).2 c4).2 c5).2 c6).2 c7)⟩⟩⟩⟩⟩⟩⟩⟩⟩⟩⟩⟩⟩⟩⟩⟩⟩⟩⟩⟩⟩⟩⟩⟩)
theorem c217 {x0 : Int} {w : zW} {K : zR → zW → Prop} (hd : 1 ≤ d) (h : ∀ d', d = d' + 1 → Go sc d' mt_217 0 [vi x0] [] w K) : Cl sc d 217 [vi x0] w K := Cl_of rfl hd h
/-! FerryHallModel takes ()V -/
set_option maxRecDepth 8000 in
theorem b218_0 (h : (I 1835 37 = 0 ∨ I 1835 37 = 1) ∧ Go sc d mt_218 50 [vr 1835, vi 0] [] (z_cfg t, z_u (z_u (z_u (z_u (z_u (z_u I 1835 1 (I 1835 29)) 1835 2 (I 1835 30)) 1835 3 (I 1835 31)) 1835 4 (I 1835 32)) 1835 5 (I 1835 33)) 1835 13 (I 1835 37), J) Q) : Go sc d mt_218 0 [vr 1835, vn] [] (z_cfg t, I, J) Q := by
  obtain ⟨ts, te, tt, b1, b2, b3, b4, b5, b6⟩ := t
  · exact z_sound (f := false) (cuts := [50, 100, 149, 175, 215]) 300 0 [vr 1835, vn] [] (z_tab (ts, te, tt, b1, b2, b3, b4, b5, b6) ++ t_l (ts, te, tt, b1, b2, b3, b4, b5, b6), t_s (ts, te, tt, b1, b2, b3, b4, b5, b6), I, J) h
set_option maxRecDepth 8000 in
theorem b218_50 {x1 : Int} (h : (inR x1) ∧ ((x1 < (8 : Int) → (0 ≤ x1 ∧ x1 < 8) ∧ (Go sc d mt_218 50 [vr 1835, vi (x1 + 1)] [] (z_cfg t, z_u (z_u (z_u I 1876 (x1).toNat (I 2228 (x1).toNat)) 1908 (x1).toNat (I 2260 (x1).toNat)) 1940 (x1).toNat (I 2292 (x1).toNat), J) Q)) ∧ (¬ x1 < (8 : Int) → Go sc d mt_218 100 [vr 1835, vi 0] [] (z_cfg t, I, J) Q))) : Go sc d mt_218 50 [vr 1835, vi x1] [] (z_cfg t, I, J) Q := by
  obtain ⟨ts, te, tt, b1, b2, b3, b4, b5, b6⟩ := t
  · exact z_sound (f := false) (cuts := [50, 100, 149, 175, 215]) 300 50 [vr 1835, vi x1] [] (z_tab (ts, te, tt, b1, b2, b3, b4, b5, b6) ++ t_l (ts, te, tt, b1, b2, b3, b4, b5, b6), t_s (ts, te, tt, b1, b2, b3, b4, b5, b6), I, J) (show (inR x1) ∧ (inR 8) ∧ ((x1 < (8 : Int) → (0 ≤ x1 ∧ x1 < 8) ∧ (0 ≤ x1 ∧ x1 < 8) ∧ (0 ≤ x1 ∧ x1 < 8) ∧ (0 ≤ x1 ∧ x1 < 8) ∧ (0 ≤ x1 ∧ x1 < 8) ∧ (0 ≤ x1 ∧ x1 < 8) ∧ Go sc d mt_218 50 [vr 1835, vi (x1 + 1)] [] (z_cfg (ts, te, tt, b1, b2, b3, b4, b5, b6), z_u (z_u (z_u I 1876 (x1).toNat (I 2228 (x1).toNat)) 1908 (x1).toNat (I 2260 (x1).toNat)) 1940 (x1).toNat (I 2292 (x1).toNat), J) Q) ∧ (¬ x1 < (8 : Int) → Go sc d mt_218 100 [vr 1835, vi 0] [] (z_cfg (ts, te, tt, b1, b2, b3, b4, b5, b6), I, J) Q)) from ⟨h.1, ⟨⟨by decide, by decide⟩, ⟨fun c0 => ⟨(h.2.1 c0).1, ⟨(h.2.1 c0).1, ⟨(h.2.1 c0).1, ⟨(h.2.1 c0).1, ⟨(h.2.1 c0).1, ⟨(h.2.1 c0).1, (h.2.1 c0).2⟩⟩⟩⟩⟩⟩, fun c0 => (h.2.2 c0)⟩⟩⟩)
set_option maxRecDepth 8000 in
theorem b218_100 {x1 : Int} (h : (inR x1) ∧ ((x1 < (2 : Int) → (0 ≤ x1 ∧ x1 < 2) ∧ (Go sc d mt_218 100 [vr 1835, vi (x1 + 1)] [] (z_cfg t, z_u (z_u (z_u I 1972 (x1).toNat (I 2324 (x1).toNat)) 2004 (x1).toNat (I 2356 (x1).toNat)) 2036 (x1).toNat (I 2388 (x1).toNat), J) Q)) ∧ (¬ x1 < (2 : Int) → Go sc d mt_218 149 [vr 1835, vi 0] [] (z_cfg t, I, J) Q))) : Go sc d mt_218 100 [vr 1835, vi x1] [] (z_cfg t, I, J) Q := by
  obtain ⟨ts, te, tt, b1, b2, b3, b4, b5, b6⟩ := t
  · exact z_sound (f := false) (cuts := [50, 100, 149, 175, 215]) 300 100 [vr 1835, vi x1] [] (z_tab (ts, te, tt, b1, b2, b3, b4, b5, b6) ++ t_l (ts, te, tt, b1, b2, b3, b4, b5, b6), t_s (ts, te, tt, b1, b2, b3, b4, b5, b6), I, J) (show (inR x1) ∧ (inR 2) ∧ ((x1 < (2 : Int) → (0 ≤ x1 ∧ x1 < 2) ∧ (0 ≤ x1 ∧ x1 < 2) ∧ (0 ≤ x1 ∧ x1 < 2) ∧ (0 ≤ x1 ∧ x1 < 2) ∧ (0 ≤ x1 ∧ x1 < 2) ∧ (0 ≤ x1 ∧ x1 < 2) ∧ Go sc d mt_218 100 [vr 1835, vi (x1 + 1)] [] (z_cfg (ts, te, tt, b1, b2, b3, b4, b5, b6), z_u (z_u (z_u I 1972 (x1).toNat (I 2324 (x1).toNat)) 2004 (x1).toNat (I 2356 (x1).toNat)) 2036 (x1).toNat (I 2388 (x1).toNat), J) Q) ∧ (¬ x1 < (2 : Int) → Go sc d mt_218 149 [vr 1835, vi 0] [] (z_cfg (ts, te, tt, b1, b2, b3, b4, b5, b6), I, J) Q)) from ⟨h.1, ⟨⟨by decide, by decide⟩, ⟨fun c0 => ⟨(h.2.1 c0).1, ⟨(h.2.1 c0).1, ⟨(h.2.1 c0).1, ⟨(h.2.1 c0).1, ⟨(h.2.1 c0).1, ⟨(h.2.1 c0).1, (h.2.1 c0).2⟩⟩⟩⟩⟩⟩, fun c0 => (h.2.2 c0)⟩⟩⟩)
set_option maxRecDepth 8000 in
theorem b218_149 {x1 : Int} (h : (inR x1) ∧ ((x1 < (16 : Int) → (0 ≤ x1 ∧ x1 < 16) ∧ (Go sc d mt_218 149 [vr 1835, vi (x1 + 1)] [] (z_cfg t, z_u I 2070 (x1).toNat (znz (I 2550 (x1).toNat)), J) Q)) ∧ (¬ x1 < (16 : Int) → Go sc d mt_218 175 [vr 1835, vi 0] [] (z_cfg t, I, J) Q))) : Go sc d mt_218 149 [vr 1835, vi x1] [] (z_cfg t, I, J) Q := by
  obtain ⟨ts, te, tt, b1, b2, b3, b4, b5, b6⟩ := t
  · exact z_sound (f := false) (cuts := [50, 100, 149, 175, 215]) 300 149 [vr 1835, vi x1] [] (z_tab (ts, te, tt, b1, b2, b3, b4, b5, b6) ++ t_l (ts, te, tt, b1, b2, b3, b4, b5, b6), t_s (ts, te, tt, b1, b2, b3, b4, b5, b6), I, J) (show (inR x1) ∧ (inR 16) ∧ ((x1 < (16 : Int) → (0 ≤ x1 ∧ x1 < 16) ∧ (0 ≤ x1 ∧ x1 < 16) ∧ Go sc d mt_218 149 [vr 1835, vi (x1 + 1)] [] (z_cfg (ts, te, tt, b1, b2, b3, b4, b5, b6), z_u I 2070 (x1).toNat (znz (I 2550 (x1).toNat)), J) Q) ∧ (¬ x1 < (16 : Int) → Go sc d mt_218 175 [vr 1835, vi 0] [] (z_cfg (ts, te, tt, b1, b2, b3, b4, b5, b6), I, J) Q)) from ⟨h.1, ⟨⟨by decide, by decide⟩, ⟨fun c0 => ⟨(h.2.1 c0).1, ⟨(h.2.1 c0).1, (h.2.1 c0).2⟩⟩, fun c0 => (h.2.2 c0)⟩⟩⟩)
set_option maxRecDepth 8000 in
theorem b218_175 {x1 : Int} (h : (inR x1) ∧ ((inR (I 1835 4)) ∧ ((x1 < I 1835 4 → (0 ≤ x1 ∧ x1 < 12) ∧ (Go sc d mt_218 175 [vr 1835, vi (x1 + 1)] [] (z_cfg t, z_u (z_u I 2100 (x1).toNat (I 2420 (x1).toNat)) 2132 (x1).toNat (I 2452 (x1).toNat), J) Q)) ∧ (¬ x1 < I 1835 4 → Go sc d mt_218 215 [vr 1835, vi 0] [] (z_cfg t, I, J) Q)))) : Go sc d mt_218 175 [vr 1835, vi x1] [] (z_cfg t, I, J) Q := by
  obtain ⟨ts, te, tt, b1, b2, b3, b4, b5, b6⟩ := t
  · exact z_sound (f := false) (cuts := [50, 100, 149, 175, 215]) 300 175 [vr 1835, vi x1] [] (z_tab (ts, te, tt, b1, b2, b3, b4, b5, b6) ++ t_l (ts, te, tt, b1, b2, b3, b4, b5, b6), t_s (ts, te, tt, b1, b2, b3, b4, b5, b6), I, J) (show (inR x1) ∧ (inR (I 1835 4)) ∧ ((x1 < I 1835 4 → (0 ≤ x1 ∧ x1 < 12) ∧ (0 ≤ x1 ∧ x1 < 12) ∧ (0 ≤ x1 ∧ x1 < 12) ∧ (0 ≤ x1 ∧ x1 < 12) ∧ Go sc d mt_218 175 [vr 1835, vi (x1 + 1)] [] (z_cfg (ts, te, tt, b1, b2, b3, b4, b5, b6), z_u (z_u I 2100 (x1).toNat (I 2420 (x1).toNat)) 2132 (x1).toNat (I 2452 (x1).toNat), J) Q) ∧ (¬ x1 < I 1835 4 → Go sc d mt_218 215 [vr 1835, vi 0] [] (z_cfg (ts, te, tt, b1, b2, b3, b4, b5, b6), I, J) Q)) from ⟨h.1, ⟨h.2.1, ⟨fun c0 => ⟨(h.2.2.1 c0).1, ⟨(h.2.2.1 c0).1, ⟨(h.2.2.1 c0).1, ⟨(h.2.2.1 c0).1, (h.2.2.1 c0).2⟩⟩⟩⟩, fun c0 => (h.2.2.2 c0)⟩⟩⟩)
set_option maxRecDepth 8000 in
theorem b218_215 {x1 : Int} (h : (inR x1) ∧ ((x1 < (1200 : Int) → (0 ≤ x1 ∧ x1 < 1200) ∧ (Go sc d mt_218 215 [vr 1835, vi (x1 + 1)] [] (z_cfg t, z_u I 2164 (x1).toNat (I 2484 (x1).toNat), J) Q)) ∧ (¬ x1 < (1200 : Int) → Q (.inl none) (z_cfg t, I, J)))) : Go sc d mt_218 215 [vr 1835, vi x1] [] (z_cfg t, I, J) Q := by
  obtain ⟨ts, te, tt, b1, b2, b3, b4, b5, b6⟩ := t
  · exact z_sound (f := false) (cuts := [50, 100, 149, 175, 215]) 300 215 [vr 1835, vi x1] [] (z_tab (ts, te, tt, b1, b2, b3, b4, b5, b6) ++ t_l (ts, te, tt, b1, b2, b3, b4, b5, b6), t_s (ts, te, tt, b1, b2, b3, b4, b5, b6), I, J) (show (inR x1) ∧ (inR 1200) ∧ ((x1 < (1200 : Int) → (0 ≤ x1 ∧ x1 < 1200) ∧ (0 ≤ x1 ∧ x1 < 1200) ∧ Go sc d mt_218 215 [vr 1835, vi (x1 + 1)] [] (z_cfg (ts, te, tt, b1, b2, b3, b4, b5, b6), z_u I 2164 (x1).toNat (I 2484 (x1).toNat), J) Q) ∧ (¬ x1 < (1200 : Int) → Q (.inl none) (z_cfg (ts, te, tt, b1, b2, b3, b4, b5, b6), I, J))) from ⟨h.1, ⟨⟨by decide, by decide⟩, ⟨fun c0 => ⟨(h.2.1 c0).1, ⟨(h.2.1 c0).1, (h.2.1 c0).2⟩⟩, fun c0 => (h.2.2 c0)⟩⟩⟩)
theorem c218 {w : zW} {K : zR → zW → Prop} (hd : 1 ≤ d) (h : ∀ d', d = d' + 1 → Go sc d' mt_218 0 [vr 1835, vn] [] w K) : Cl sc d 218 [vr 1835] w K := Cl_of rfl hd h
/-! FerryHallModel fault ()I -/
set_option maxRecDepth 8000 in
theorem b219_0 (h : Q (.inl (some (vi (I 1835 20)))) (z_cfg t, z_u I 1835 0 0, J)) : Go sc d mt_219 0 [vr 1835] [] (z_cfg t, I, J) Q := by
  obtain ⟨ts, te, tt, b1, b2, b3, b4, b5, b6⟩ := t
  · exact z_sound (f := false) (cuts := []) 300 0 [vr 1835] [] (z_tab (ts, te, tt, b1, b2, b3, b4, b5, b6) ++ t_l (ts, te, tt, b1, b2, b3, b4, b5, b6), t_s (ts, te, tt, b1, b2, b3, b4, b5, b6), I, J) h
theorem c219 {w : zW} {K : zR → zW → Prop} (hd : 1 ≤ d) (h : ∀ d', d = d' + 1 → Go sc d' mt_219 0 [vr 1835] [] w K) : Cl sc d 219 [vr 1835] w K := Cl_of rfl hd h
end
