/-! ===== the class: a new crossing (its row may grow) ===== -/
section
variable {sc : mS} {d : Nat} {M : mM} {pc s : Nat} {ls st : List zV} {l : zL} {I J : Nat → Nat → Int} {Q : zR → zW → Prop} {a f q : Nat}
theorem s_cpy {n : Int} {idx nn : Nat} (hc : m_Mc M pc = some (.invokestatic idx, 3, [2])) (hk : a % 32 = 20) (h0 : 0 ≤ n) (h1 : n < 60000) (hst : (st.map z_cat).sum ≤ 8) (hN : z_fN l a = some nn) (hne : ¬ n.toNat = nn ∧ nn < 60000) (k : Go sc d M (pc + 3) ls (vr (32 * (l.length + 1) + 20) :: st) (z_x (x_cpy (l, s, I, J) a n.toNat)) Q) : Go sc d M pc ls (vi n :: vr a :: st) (z_cfgL l s, I, J) Q := by
  obtain ⟨u, w', e, hu, hw⟩ := z_bi_m (k := 2) (st := vi n :: vr a :: st) (w := (l, s, I, J)) (c := fun u w' => u = vr (32 * (l.length + 1) + 20) :: st ∧ w' = x_cpy (l, s, I, J) a n.toNat) (by
    show cond (Nat.ble (st.map z_cat).sum 8) ((a % 32 = 20 ∧ (0 ≤ n ∧ n < 60000) ∧ ¬ n.toNat = (z_cfgL l s).2.2.2.1 a ∧ (z_cfgL l s).2.2.2.1 a < 60000) ∧ _) False
    rw [Nat.ble_eq_true_of_le hst]
    exact ⟨⟨hk, ⟨h0, h1⟩, by rw [z_fN_s hN]; exact hne⟩, rfl, rfl⟩)
  subst hu hw
  exact Go_step (w := z_x (l, s, I, J)) (w' := z_x (x_cpy (l, s, I, J) a n.toNat)) (by simp only [m_step, hc, m_nw2, e]) k
theorem s_pfr {idx ci v : Nat} (hc : m_Mc M pc = some (.putfield idx, 3, [ci, f, 2])) (hk : a % 32 = ci + 1) (hP : z_fP l a f = some v) (k : Go sc d M (pc + 3) ls st (z_cfgL (z_sP l a f q) s, I, J) Q) : Go sc d M pc ls (vr q :: vr a :: st) (z_cfgL l s, I, J) Q := by
  obtain ⟨u, w', e, hu, hw⟩ := z_pf_m (x := [ci, f, 2]) (st := vr q :: vr a :: st) (w := (l, s, I, J)) (k := fun u w' => u = st ∧ w' = x_wP (l, s, I, J) a f q) (by
    show cond (Nat.beq (a % 32) (ci + 1)) (match z_fP l a f with
      | some _ => (st = st ∧ x_wP (l, s, I, J) a f q = x_wP (l, s, I, J) a f q)
      | none => False) False
    rw [hk, hP, Nat.beq_refl]
    exact ⟨rfl, rfl⟩)
  subst hu hw
  exact Go_step (w := z_x (l, s, I, J)) (w' := z_x (x_wP (l, s, I, J) a f q)) (by simp only [m_step, hc, m_nw2, e]) k
end
def ecC (e : Nat × Nat × Nat × Nat) : Nat := ((e.1 * 4 + e.2.1) * 256 + e.2.2.1) * 2048 + e.2.2.2
/-- the edges' row: its length; what may still be made for it -/
def eL (t : zT) : Nat := (z_fN (z_tab t ++ t_l t) (t_e t)).getD 0
def eOk (t : zT) : Prop := (eL t = 2500 ∨ eL t = 10000 ∨ eL t = 40000) ∧ z_fN (z_tab t ++ t_l t) (t_e t) = some (eL t) ∧ t_e t % 32 = 20 ∧ (t_e t = 1204 ∨ 3392 ≤ t_e t)
def rS (t : zT) : Nat := t_s t + (if eL t = 2500 then 50000 else if eL t = 10000 then 40000 else 0)
def rC (t : zT) : Nat := (t_l t).length + (if eL t = 2500 then 2 else if eL t = 10000 then 1 else 0)
def tB (t t' : zT) : Prop := t_b t' = t_b t ∧ t_rb t' = t_rb t ∧ t_gb t' = t_gb t ∧ t_ob t' = t_ob t ∧ t_pb t' = t_pb t ∧ t_eb t' = t_eb t
def tR (t t' : zT) : Prop := tB t t' ∧ eOk t' ∧ rS t' = rS t ∧ rC t' = rC t
theorem tR.rf {t : zT} (h : eOk t) : tR t t := ⟨⟨rfl, rfl, rfl, rfl, rfl, rfl⟩, h, rfl, rfl⟩
theorem tR.tr {t t' t2 : zT} (h : tR t t') (h' : tR t' t2) : tR t t2 := by
  obtain ⟨⟨a1, a2, a3, a4, a5, a6⟩, -, b3, b4⟩ := h
  obtain ⟨⟨c1, c2, c3, c4, c5, c6⟩, d2, d3, d4⟩ := h'
  exact ⟨⟨c1.trans a1, c2.trans a2, c3.trans a3, c4.trans a4, c5.trans a5, c6.trans a6⟩, d2, d3.trans b3, d4.trans b4⟩
/-- a longer row for the edges -/
def t_grow (t : zT) (n : Nat) : zT := (t_s t + n, 32 * ((z_tab t ++ t_l t).length + 1) + 20, t_l t ++ [(20, n, [])], t_b t, t_rb t, t_gb t, t_ob t, t_pb t, t_eb t)
set_option maxRecDepth 8000 in
theorem tab_len (t : zT) : (z_tab t).length = 105 := by
  obtain ⟨ts, te, tt, b1, b2, b3, b4, b5, b6⟩ := t
  rfl
set_option maxRecDepth 8000 in
theorem t_grow_l (t : zT) (n : Nat) : z_sP (z_nl (z_tab t ++ t_l t) 20 n 0) 1057 13 (t_e (t_grow t n)) = z_tab (t_grow t n) ++ t_l (t_grow t n) := by
  obtain ⟨ts, te, tt, b1, b2, b3, b4, b5, b6⟩ := t
  rfl
set_option maxRecDepth 8000 in
theorem t_e_fP (t : zT) (n : Nat) : z_fP (z_nl (z_tab t ++ t_l t) 20 n 0) 1057 13 = some (t_e t) := by
  obtain ⟨ts, te, tt, b1, b2, b3, b4, b5, b6⟩ := t
  rfl
theorem t_grow_N (t : zT) (n : Nat) : z_fN (z_tab (t_grow t n) ++ t_l (t_grow t n)) (t_e (t_grow t n)) = some n := by
  have e1 : t_e (t_grow t n) = 32 * (105 + (t_l t).length + 1) + 20 := by
    show 32 * ((z_tab t ++ t_l t).length + 1) + 20 = _
    rw [List.length_append, tab_len]
  have e2 : t_l (t_grow t n) = t_l t ++ [(20, n, [])] := rfl
  unfold z_fN
  rw [e1, e2, show (32 * (105 + (t_l t).length + 1) + 20) / 32 - 1 = 105 + (t_l t).length by omega, List.getElem?_append_right (by rw [tab_len]; omega), tab_len, show 105 + (t_l t).length - 105 = (t_l t).length by omega, List.getElem?_append_right (Nat.le_refl _), Nat.sub_self]
  show cond (Nat.beq ((32 * (105 + (t_l t).length + 1) + 20) % 32) 20 && Nat.ble 32 (32 * (105 + (t_l t).length + 1) + 20)) (some n) none = some n
  rw [show (32 * (105 + (t_l t).length + 1) + 20) % 32 = 20 by omega, Nat.ble_eq_true_of_le (by omega)]
  rfl
theorem t_grow_R {t : zT} {n : Nat} (h : eOk t) (hn : n = 4 * eL t) (hl : ¬ eL t = 40000) : tR t (t_grow t n) := by
  have hN := t_grow_N t n
  have hL : eL (t_grow t n) = n := by unfold eL; rw [hN]; rfl
  have e1 : t_e (t_grow t n) = 32 * (105 + (t_l t).length + 1) + 20 := by
    show 32 * ((z_tab t ++ t_l t).length + 1) + 20 = _
    rw [List.length_append, tab_len]
  have hv : eL t = 2500 ∨ eL t = 10000 := by
    rcases h.1 with q | q | q
    · exact Or.inl q
    · exact Or.inr q
    · exact absurd q hl
  refine ⟨⟨rfl, rfl, rfl, rfl, rfl, rfl⟩, ⟨by rw [hL]; omega, by rw [hL]; exact hN, by rw [e1]; omega, by rw [e1]; omega⟩, ?_, ?_⟩
  · unfold rS
    rw [hL]
    show t_s t + n + _ = _
    rcases hv with q | q
    · rw [q, if_neg (by omega), if_pos (by omega), if_pos rfl]; omega
    · rw [q, if_neg (by omega), if_neg (by omega), if_neg (by omega), if_pos rfl]; omega
  · unfold rC
    rw [hL]
    show (t_l t ++ [(20, n, [])]).length + _ = _
    rw [List.length_append]
    rcases hv with q | q
    · rw [q, if_neg (by omega), if_pos (by omega), if_pos rfl]; rfl
    · rw [q, if_neg (by omega), if_neg (by omega), if_neg (by omega), if_pos rfl]; rfl
/-- the class's memory holds the graph g -/
def GI (t : zT) (I : Nat → Nat → Int) (D : tD) (g : gS) : Prop := I 1057 2 = 0 ∧ I 1057 4 = gM g ∧ GS I D (gN g) (gX g) (gDp g) ∧ (∀ e, e < gM g → I (t_e t) e = ecC (gE g e)) ∧ gM g ≤ eL t
def GC (t : zT) (I : Nat → Nat → Int) (D : tD) (g : gS) : Prop := (gSp g = true ∧ I 1057 2 = 1 ∧ (0 ≤ I 1057 3 ∧ I 1057 3 ≤ 2000) ∧ ∀ i, i < gN g → I 1108 i = gX g i) ∨ (gSp g = false ∧ GI t I D g)
theorem or_add {a b k : Nat} (h : b < 2 ^ k) : a * 2 ^ k ||| b = a * 2 ^ k + b := by
  rw [Nat.mul_comm, Nat.two_pow_add_eq_or_of_lt h]
theorem ec_val {b p S j : Nat} (hb : b < 2) (hp : p < 4) (hS : S < 256) (hj : j < 2048) : zor (zshl (zor (zor (zshl (b : Int) 10) (zshl (p : Int) 8)) (S : Int)) 11) (j : Int) = ((ecC (b, p, S, j) : Nat) : Int) := by
  have e1 : zshl (b : Int) 10 = ((b * 2 ^ 10 : Nat) : Int) := zshl_n (k := 10) (by omega) (by omega)
  have e2 : zshl (p : Int) 8 = ((p * 2 ^ 8 : Nat) : Int) := zshl_n (k := 8) (by omega) (by omega)
  have o1 : b * 2 ^ 10 ||| p * 2 ^ 8 = (b * 4 + p) * 2 ^ 8 := by
    rw [or_add (show p * 2 ^ 8 < 2 ^ 10 by omega)]
    omega
  have o2 : (b * 4 + p) * 2 ^ 8 ||| S = (b * 4 + p) * 2 ^ 8 + S := or_add (by omega)
  have e3 : zshl (((b * 4 + p) * 2 ^ 8 + S : Nat) : Int) 11 = ((((b * 4 + p) * 2 ^ 8 + S) * 2 ^ 11 : Nat) : Int) := zshl_n (k := 11) (by omega) (by omega)
  have o3 : ((b * 4 + p) * 2 ^ 8 + S) * 2 ^ 11 ||| j = ((b * 4 + p) * 2 ^ 8 + S) * 2 ^ 11 + j := or_add (by omega)
  rw [e1, e2, zor_n (by omega) (by omega), o1, zor_n (by omega) (by omega), o2, e3, zor_n (by omega) (by omega), o3]
  rfl
section
variable {sc : mS} {d : Nat} {t : zT} {I J : Nat → Nat → Int} {Q : zR → zW → Prop} {D : tD}
/-- what a new crossing leaves alone -/
def FE (I I' J J' : Nat → Nat → Int) : Prop := (∀ a, a < 3392 → ¬ a = 1057 → ¬ a = 1108 → ¬ a = 1140 → ¬ a = 1236 → ¬ a = 1204 → I' a = I a) ∧ (∀ k, k < 2 ∨ 5 < k → I' 1057 k = I 1057 k) ∧ ∀ a, a < 3392 → J' a = J a
set_option maxRecDepth 8000 in
theorem b51_101 {x1 x2 x3 x4 x5 x6 : Int} {v7 : zV} (h : Go sc d mt_51 131 [vr 1057, vi x1, vi x2, vi x3, vi x4, vi x5, vi x6, vi (zor (zor (zshl x2 10) (zshl x3 8)) x4)] [vi (zor (zshl (zor (zor (zshl x2 10) (zshl x3 8)) x4) 11) x6), vi (I 1057 4), vr (t_e t)] (z_cfg t, I, J) Q) : Go sc d mt_51 101 [vr 1057, vi x1, vi x2, vi x3, vi x4, vi x5, vi x6, v7] [] (z_cfg t, I, J) Q := by
  obtain ⟨ts, te, tt, b1, b2, b3, b4, b5, b6⟩ := t
  exact z_sound (f := false) (cuts := [131]) 60 101 [vr 1057, vi x1, vi x2, vi x3, vi x4, vi x5, vi x6, v7] [] (z_tab (ts, te, tt, b1, b2, b3, b4, b5, b6) ++ t_l (ts, te, tt, b1, b2, b3, b4, b5, b6), t_s (ts, te, tt, b1, b2, b3, b4, b5, b6), I, J) h
set_option maxRecDepth 8000 in
theorem b51_132 {x1 x2 x3 x4 x5 x6 x7 : Int} (h : Q (.inl none) (z_cfg t, z_u I 1057 4 ((I 1057 4) + 1), J)) : Go sc d mt_51 132 [vr 1057, vi x1, vi x2, vi x3, vi x4, vi x5, vi x6, vi x7] [] (z_cfg t, I, J) Q := by
  obtain ⟨ts, te, tt, b1, b2, b3, b4, b5, b6⟩ := t
  exact z_sound (f := false) (cuts := [131]) 60 132 [vr 1057, vi x1, vi x2, vi x3, vi x4, vi x5, vi x6, vi x7] [] (z_tab (ts, te, tt, b1, b2, b3, b4, b5, b6) ++ t_l (ts, te, tt, b1, b2, b3, b4, b5, b6), t_s (ts, te, tt, b1, b2, b3, b4, b5, b6), I, J) h
set_option maxRecDepth 8000 in
theorem b51_75 {x1 x2 x3 x4 x5 x6 s0 s1 : Int} (h : (inR s1) ∧ (inR s0) ∧ ((s1 < s0 → Go sc d mt_51 101 [vr 1057, vi x1, vi x2, vi x3, vi x4, vi x5, vi x6, vn] [] (z_cfg t, I, J) Q) ∧ (¬ s1 < s0 → Go sc d mt_51 88 [vr 1057, vi x1, vi x2, vi x3, vi x4, vi x5, vi x6, vn] [vr (t_e t), vi 4, vr (t_e t), vr 1057] (z_cfg t, I, J) Q))) : Go sc d mt_51 75 [vr 1057, vi x1, vi x2, vi x3, vi x4, vi x5, vi x6, vn] [vi s0, vi s1] (z_cfg t, I, J) Q := by
  obtain ⟨ts, te, tt, b1, b2, b3, b4, b5, b6⟩ := t
  exact z_sound (f := false) (cuts := [88, 101]) 60 75 [vr 1057, vi x1, vi x2, vi x3, vi x4, vi x5, vi x6, vn] [vi s0, vi s1] (z_tab (ts, te, tt, b1, b2, b3, b4, b5, b6) ++ t_l (ts, te, tt, b1, b2, b3, b4, b5, b6), t_s (ts, te, tt, b1, b2, b3, b4, b5, b6), I, J) h
set_option maxRecDepth 8000 in
theorem b51_89 {x1 x2 x3 x4 x5 x6 s0 : Int} {e : Nat} (h : (inR (4 * s0) ∧ inR 40000) ∧ Go sc d mt_51 95 [vr 1057, vi x1, vi x2, vi x3, vi x4, vi x5, vi x6, vn] [vi (if 40000 < 4 * s0 then 40000 else 4 * s0), vr e, vr 1057] (z_cfg t, I, J) Q) : Go sc d mt_51 89 [vr 1057, vi x1, vi x2, vi x3, vi x4, vi x5, vi x6, vn] [vi s0, vi 4, vr e, vr 1057] (z_cfg t, I, J) Q := by
  obtain ⟨ts, te, tt, b1, b2, b3, b4, b5, b6⟩ := t
  exact z_sound (f := false) (cuts := [95]) 60 89 [vr 1057, vi x1, vi x2, vi x3, vi x4, vi x5, vi x6, vn] [vi s0, vi 4, vr e, vr 1057] (z_tab (ts, te, tt, b1, b2, b3, b4, b5, b6) ++ t_l (ts, te, tt, b1, b2, b3, b4, b5, b6), t_s (ts, te, tt, b1, b2, b3, b4, b5, b6), I, J) h
/-- the crossing is laid -/
theorem k51put {b p S j m : Nat} {E : Nat → Nat × Nat × Nat × Nat} {x1 x5 : Int} {v7 : zV} (hE : eOk t) (hb : b < 2) (hp : p < 4) (hS : S < 256) (hj : j < 2048) (hm : I 1057 4 = m) (hmL : m < eL t) (hrow : ∀ e, e < m → I (t_e t) e = ecC (E e))
    (h : ∀ I' : Nat → Nat → Int, (∀ a, ¬ a = 1057 → ¬ a = t_e t → I' a = I a) → (∀ k, ¬ k = 4 → I' 1057 k = I 1057 k) → I' 1057 4 = ((m + 1 : Nat) : Int) → (∀ e, e < m + 1 → I' (t_e t) e = ecC (upN E m (b, p, S, j) e)) → Q (.inl none) (z_cfg t, I', J)) :
    Go sc d mt_51 101 [vr 1057, vi x1, vi (b : Int), vi (p : Int), vi (S : Int), vi x5, vi (j : Int), v7] [] (z_cfg t, I, J) Q := by
  obtain ⟨hv, hN, hk, hd2⟩ := hE
  have hne : ¬ 1057 = t_e t := by omega
  refine b51_101 ?_
  rw [hm]
  refine s_iast (l := z_tab t ++ t_l t) (s := t_s t) rfl hk hN (by omega) (by omega) (by omega) ?_
  rw [Int.toNat_natCast, ec_val hb hp hS hj]
  refine b51_132 ?_
  rw [zu_ne hne, hm]
  refine h _ (fun a h1 h2 => ?_) (fun k h1 => ?_) ?_ (fun e he => ?_)
  · rw [zu_ne h1, zu_ne h2]
  · rw [zu_nk h1, zu_ne hne]
  · rw [zu_same]; omega
  · rw [zu_ne (fun z => hne z.symm), zu_at]
    by_cases q : e = m
    · rw [if_pos q, q, upN_at]
    · rw [if_neg q, upN_ne q]
      exact hrow e (by omega)
set_option maxRecDepth 8000 in
theorem k51row {b p S j m : Nat} {E : Nat → Nat × Nat × Nat × Nat} {x1 x5 : Int} (hE : eOk t) (hb : b < 2) (hp : p < 4) (hS : S < 256) (hj : j < 2048) (hm : I 1057 4 = m) (hm4 : m < 40000) (hmL : m ≤ eL t) (hrow : ∀ e, e < m → I (t_e t) e = ecC (E e))
    (h : ∀ (t' : zT) (I' J' : Nat → Nat → Int), tR t t' → (∀ a, a < 3392 → ¬ a = 1057 → ¬ a = 1204 → I' a = I a) → (∀ k, ¬ k = 4 → I' 1057 k = I 1057 k) → (∀ a, a < 3392 → J' a = J a) → I' 1057 4 = ((m + 1 : Nat) : Int) → (∀ e, e < m + 1 → I' (t_e t') e = ecC (upN E m (b, p, S, j) e)) → m + 1 ≤ eL t' → Q (.inl none) (z_cfg t', I', J')) :
    Go sc d mt_51 74 [vr 1057, vi x1, vi (b : Int), vi (p : Int), vi (S : Int), vi x5, vi (j : Int), vn] [vr (t_e t), vi (m : Int)] (z_cfg t, I, J) Q := by
  have hE2 := hE
  obtain ⟨hv, hN, hk, hd2⟩ := hE2
  refine s_aln (l := z_tab t ++ t_l t) (s := t_s t) rfl hk hN ?_
  refine b51_75 ⟨⟨by omega, by omega⟩, ⟨by omega, by omega⟩, fun c => ?_, fun c => ?_⟩
  · refine k51put hE hb hp hS hj hm (by omega) hrow (fun I' g1 g2 g3 g4 => ?_)
    exact h t I' J (tR.rf hE) (fun a h1 h2 h3 => g1 a h2 (by omega)) g2 (fun _ _ => rfl) g3 g4 (by omega)
  · have hL : ¬ eL t = 40000 := by omega
    refine s_aln (l := z_tab t ++ t_l t) (s := t_s t) rfl hk hN ?_
    refine b51_89 ⟨⟨⟨by omega, by omega⟩, ⟨by decide, by decide⟩⟩, ?_⟩
    rw [if_neg (by omega)]
    refine s_cpy (l := z_tab t ++ t_l t) (s := t_s t) (idx := 163) rfl hk (by omega) (by omega) (by show 1 + 0 ≤ 8; omega) hN (by omega) ?_
    rw [show (4 * (eL t : Int)).toNat = 4 * eL t by omega]
    have hR := t_grow_R (n := 4 * eL t) hE rfl hL
    have e1 : t_e (t_grow t (4 * eL t)) = 32 * ((z_tab t ++ t_l t).length + 1) + 20 := rfl
    have hbig : 3392 ≤ 32 * ((z_tab t ++ t_l t).length + 1) + 20 := by
      rw [List.length_append, tab_len]
      omega
    have hne : ¬ t_e t = 32 * ((z_tab t ++ t_l t).length + 1) + 20 := by
      intro z
      have w := hN
      rw [z] at w
      unfold z_fN at w
      rw [show (32 * ((z_tab t ++ t_l t).length + 1) + 20) / 32 - 1 = (z_tab t ++ t_l t).length by omega, List.getElem?_eq_none (Nat.le_refl _)] at w
      cases w
    refine s_pfr (l := z_nl (z_tab t ++ t_l t) 20 (4 * eL t) 0) (idx := 47) (ci := 0) (v := t_e t) rfl (by decide) (t_e_fP t _) ?_
    rw [← e1, t_grow_l]
    have hcN : (z_cfgL (z_tab t ++ t_l t) (t_s t)).2.2.2.1 (t_e t) = eL t := z_fN_s hN
    have hI : ∀ a, ¬ a = t_e (t_grow t (4 * eL t)) → (fun i j => if i = 32 * ((z_tab t ++ t_l t).length + 1) + 20 then (if j < (z_cfgL (z_tab t ++ t_l t) (t_s t)).2.2.2.1 (t_e t) ∧ j < 4 * eL t then I (t_e t) j else 0) else I i j) a = I a := fun a ha => by
      funext j
      show (if a = 32 * ((z_tab t ++ t_l t).length + 1) + 20 then _ else I a j) = I a j
      rw [if_neg (fun z => ha (z.trans e1.symm))]
    have hI2 : ∀ e, e < m → (fun i j => if i = 32 * ((z_tab t ++ t_l t).length + 1) + 20 then (if j < (z_cfgL (z_tab t ++ t_l t) (t_s t)).2.2.2.1 (t_e t) ∧ j < 4 * eL t then I (t_e t) j else 0) else I i j) (t_e (t_grow t (4 * eL t))) e = ecC (E e) := fun e he => by
      show (if t_e (t_grow t (4 * eL t)) = 32 * ((z_tab t ++ t_l t).length + 1) + 20 then (if e < (z_cfgL (z_tab t ++ t_l t) (t_s t)).2.2.2.1 (t_e t) ∧ e < 4 * eL t then I (t_e t) e else 0) else _) = _
      rw [if_pos e1, hcN, if_pos ⟨by omega, by omega⟩]
      exact hrow e he
    have hL2 : eL (t_grow t (4 * eL t)) = 4 * eL t := by
      unfold eL
      rw [t_grow_N]
      rfl
    have hq1 : 4 * eL t ≥ m + 1 := by omega
    refine k51put (t := t_grow t (4 * eL t)) (E := E) hR.2.1 hb hp hS hj ?_ (Nat.lt_of_lt_of_le (Nat.lt_succ_self m) (Nat.le_trans hq1 (Nat.le_of_eq hL2.symm))) hI2 (fun I' g1 g2 g3 g4 => ?_)
    · exact (congrFun (hI 1057 (by omega)) 4).trans hm
    · refine h _ I' _ hR (fun a h1 h2 h3 => ?_) (fun k h1 => ?_) (fun a h1 => ?_) g3 g4 (Nat.le_trans hq1 (Nat.le_of_eq hL2.symm))
      · exact (g1 a h2 (by omega)).trans (hI a (by omega))
      · exact (g2 k h1).trans (congrFun (hI 1057 (by omega)) k)
      · exact zzr_ne (I := J) (a := 32 * ((z_tab t ++ t_l t).length + 1) + 20) (i := a) (by omega)
end
