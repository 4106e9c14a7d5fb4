/-! every method's table is good -/
def m_jv (c idx k : Nat) : Bool := c == 4 && ((idx == 78 && k == 0) || (idx == 83 && k == 1))
def m_js (c idx k : Nat) : Bool := (c == 0 && (idx == 163 && k == 2)) || ((c == 6 && (idx == 56 && k == 3)) || ((c == 6 && (idx == 92 && k == 4)) || ((c == 0 && (idx == 158 && k == 4)) || ((c == 2 && (idx == 113 && k == 4)) || (c == 4 && (idx == 41 && k == 4))))))
def m_jok (c : Nat) (q : Nat × mRow) : Bool := match q.2.1 with
  | .invokevirtual idx => match q.2.2.2 with
    | [k] => m_jv c idx k
    | _ => true
  | .invokestatic idx => match q.2.2.2 with
    | [k] => m_js c idx k
    | _ => true
  | _ => true
def m_ths (rs : List (Nat × mRow)) : List (Nat × Nat) := rs.filterMap (fun q => match q.2.1 with
  | .new _ => match q.2.2.2 with
    | 1 :: e :: _ => some (q.1, e)
    | _ => none
  | _ => none)
theorem mw_78 : Cond.methodLink (m_own 4) 78 (m_My mj_ln) ∈ m_tbl := m_is_s (i := 1122) (by decide +kernel)
theorem mw_83 : Cond.methodLink (m_own 4) 83 (m_My mj_ch) ∈ m_tbl := m_is_s (i := 1132) (by decide +kernel)
theorem mw_163 : Cond.methodLink (m_own 0) 163 (m_My mj_cp) ∈ m_tbl := m_is_s (i := 800) (by decide +kernel)
theorem mw_56 : Cond.methodLink (m_own 6) 56 Lib.Math.max.name ∈ m_tbl := m_is_s (i := 591) (by decide +kernel)
theorem mw_92 : Cond.methodLink (m_own 6) 92 Lib.Math.min.name ∈ m_tbl := m_is_s (i := 718) (by decide +kernel)
theorem mw_158 : Cond.methodLink (m_own 0) 158 Lib.Math.min.name ∈ m_tbl := m_is_s (i := 799) (by decide +kernel)
theorem mw_113 : Cond.methodLink (m_own 2) 113 Lib.Math.min.name ∈ m_tbl := m_is_s (i := 875) (by decide +kernel)
theorem mw_41 : Cond.methodLink (m_own 4) 41 Lib.Math.min.name ∈ m_tbl := m_is_s (i := 1092) (by decide +kernel)
theorem mw_oi : Cond.instanceMethod Lib.objectInit ∈ m_tbl := m_is_s (i := 170) (by decide +kernel)
theorem mw_oc : Cond.code Lib.objectInit ⟨#[0xb1]⟩ 1 none ∈ m_tbl := m_is_s (i := 171) (by decide +kernel)
theorem m_vwn : ∀ (c : Nat) (q : vw_C), vwCl[c]? = some q → q.1 = m_own c := by
  intro c q h
  have hl : c < 11 := (List.getElem?_eq_some_iff.mp h).1
  have hall : (List.range 11).all (fun c => decide ((vwCl[c]?).map (fun q => q.1) = some (m_own c))) = true := by decide +kernel
  have h1 := of_decide_eq_true (List.all_eq_true.mp hall c (List.mem_range.mpr hl))
  rw [h] at h1
  exact Option.some.inj h1
theorem m_in17 {α : Type} {T : Nat → List α} {f : Nat → α → Bool} (h : (List.range 17).all (fun c => (T c).all (f c)) = true) {c : Nat} (hc : c < 17) {r : α} (hr : r ∈ T c) : f c r = true := List.all_eq_true.mp (List.all_eq_true.mp h c (List.mem_range.mpr hc)) r hr
section MGD
variable {l : Launch} {D : va_G} {cA : Nat → Nat} {b : Nat} {ex : Nat → Nat} {sc : mS} {M : mM} {c : Nat} {pc idx len : Nat} {x : List Nat} {i : Bool}
theorem m_jv_s {k : Nat} (hc : (m_My M).cls = m_own c) (h : m_jv c idx k = true) (hd : decode (m_Mb M) pc = .ok (.invokevirtual idx, 3)) : m_biP l D cA b ex sc M pc k := by
  simp only [m_jv, Bool.or_eq_true, Bool.and_eq_true, beq_iff_eq] at h
  rcases h with ⟨rfl, ⟨rfl, rfl⟩ | ⟨rfl, rfl⟩⟩
  · exact m_bi0_W (by rw [hc]; exact mw_78) hd
  · exact m_bi1_W (by rw [hc]; exact mw_83) hd
theorem m_js_s {k : Nat} (hc : (m_My M).cls = m_own c) (h : m_js c idx k = true) (hd : decode (m_Mb M) pc = .ok (.invokestatic idx, 3)) : m_biP l D cA b ex sc M pc k := by
  simp only [m_js, Bool.or_eq_true, Bool.and_eq_true, beq_iff_eq] at h
  rcases h with ⟨rfl, rfl, rfl⟩ | ⟨rfl, rfl, rfl⟩ | ⟨rfl, rfl, rfl⟩ | ⟨rfl, rfl, rfl⟩ | ⟨rfl, rfl, rfl⟩ | ⟨rfl, rfl, rfl⟩
  · exact m_bi2_W (by rw [hc]; exact mw_163) hd
  · exact m_bi3_W (by rw [hc]; exact mw_56) hd
  · exact m_bi4_W (by rw [hc]; exact mw_92) hd
  · exact m_bi4_W (by rw [hc]; exact mw_158) hd
  · exact m_bi4_W (by rw [hc]; exact mw_113) hd
  · exact m_bi4_W (by rw [hc]; exact mw_41) hd
theorem m_rk_call {ins : Instr} {md : Nat} (hx : ∀ k, x ≠ [k]) (hx0 : x ≠ []) (hins : (ins = .invokevirtual idx ∧ md = 0) ∨ (ins = .invokestatic idx ∧ md = 1) ∨ (ins = .invokespecial idx ∧ md = 2)) (h : m_rck i c (pc, ins, len, x) = true) :
    ∃ mi na kd, x = [mi, na, kd] ∧ ∃ r ∈ m_MLt.getD c [], r.1 = idx ∧ r.2.1 = md ∧ r.2.2.1 = mi ∧ r.2.2.2.1 = na ∧ r.2.2.2.2.1 = kd := by
  have go : ∀ {mi na kd : Nat}, (m_MLt.getD c []).any (fun r => r.1 == idx && (r.2.1 == md && (r.2.2.1 == mi && (r.2.2.2.1 == na && r.2.2.2.2.1 == kd)))) = true → x = [mi, na, kd] → ∃ mi na kd, x = [mi, na, kd] ∧ ∃ r ∈ m_MLt.getD c [], r.1 = idx ∧ r.2.1 = md ∧ r.2.2.1 = mi ∧ r.2.2.2.1 = na ∧ r.2.2.2.2.1 = kd := by
    intro mi na kd h e
    obtain ⟨r, hr, hq⟩ := List.any_eq_true.mp h
    simp only [Bool.and_eq_true, beq_iff_eq] at hq
    exact ⟨mi, na, kd, e, r, hr, hq.1, hq.2.1, hq.2.2.1, hq.2.2.2.1, hq.2.2.2.2⟩
  match x, hx, hx0, h, @go with
  | [], hx, hx0, h, _ => exact absurd rfl hx0
  | [k], hx, hx0, h, _ => exact absurd rfl (hx k)
  | [a1, a2], hx, hx0, h, _ => rcases hins with ⟨rfl, rfl⟩ | ⟨rfl, rfl⟩ | ⟨rfl, rfl⟩ <;> cases h
  | [a1, a2, a3], hx, hx0, h, go => rcases hins with ⟨rfl, rfl⟩ | ⟨rfl, rfl⟩ | ⟨rfl, rfl⟩ <;> exact go h rfl
  | a1 :: a2 :: a3 :: a4 :: t, hx, hx0, h, _ => rcases hins with ⟨rfl, rfl⟩ | ⟨rfl, rfl⟩ | ⟨rfl, rfl⟩ <;> cases h
theorem m_lok_s {own : String} {q : mLk} (h : m_lok own q = true) : ∃ (Mj : mM) (t : Nat × Nat × Nat × Nat × Nat × Nat), m_G q.2.2.1 = some Mj ∧ (m_Gl.zip m_MT)[q.2.2.1]? = some (Mj, t) ∧ t.2.2.2.2.2 = q.2.1 ∧
    (q.2.1 = 0 → q.2.2.2.1 = t.1 + 1 ∧ 1 ≤ q.2.2.2.2.1 ∧ (vwCl[q.2.2.2.2.1 - 1]?).map (fun r => r.1) = some (m_My Mj).cls ∧ Cond.methodLink own q.1 (m_My Mj) ∈ m_tbl) ∧
    (q.2.1 = 1 → q.2.2.2.1 = t.1 ∧ Cond.methodLink own q.1 (m_My Mj) ∈ m_tbl) ∧
    (q.2.1 = 2 → q.2.2.2.1 = t.1 + 1 ∧ 1 ≤ q.2.2.2.2.1 ∧ (Cond.methodLink own q.1 (m_My Mj) ∈ m_tbl ∨ (own = "FerryHall" ∧ (q.1, m_My Mj) ∈ m_nst))) := by
  unfold m_lok at h
  split at h
  · rename_i Mj t h1 h2
    rw [Bool.and_eq_true, decide_eq_true_eq] at h
    refine ⟨Mj, t, h1, List.getElem?_zip_eq_some.mpr ⟨h1, h2⟩, h.1, fun e => ?_, fun e => ?_, fun e => ?_⟩
    · have h3 := h.2
      rw [e] at h3
      simp only [Bool.and_eq_true, decide_eq_true_eq] at h3
      exact ⟨h3.1, h3.2.1, h3.2.2.1, m_is_s h3.2.2.2⟩
    · have h3 := h.2
      rw [e] at h3
      simp only [Bool.and_eq_true, decide_eq_true_eq] at h3
      exact ⟨h3.1, m_is_s h3.2⟩
    · have h3 := h.2
      rw [e] at h3
      simp only [Bool.and_eq_true, Bool.or_eq_true, decide_eq_true_eq] at h3
      refine ⟨h3.1, h3.2.1, ?_⟩
      rcases h3.2.2 with h4 | h4
      · exact Or.inl (m_is_s h4)
      · exact Or.inr h4
  · cases h
/-- a method's words: it catches, or it doesn't -/
theorem m_wds {j : Nat} {Mj : mM} {t : Nat × Nat × Nat × Nat × Nat × Nat} (h : (m_Gl.zip m_MT)[j]? = some (Mj, t)) (h3 : ¬ t.2.2.2.2.2 = 3) : m_mok Mj t = true ∨ m_wck Mj t = true := by
  have h1 := m_MT_ok j _ h
  have h2 := List.all_eq_true.mp m_W_ok _ (List.mem_of_getElem? h)
  unfold m_sok at h1
  simp only [Bool.or_eq_true, beq_iff_eq] at h1 h2
  rcases h1 with h1 | h1 | h1
  · exact absurd h1 h3
  · rcases h2 with h2 | h2
    · rw [h2] at h1; cases h1
    · exact Or.inr h2
  · exact Or.inl h1
theorem m_kV_of (hc : (m_My M).cls = m_own c) (hc17 : c < 17) (hx : ∀ k, x ≠ [k]) (hx0 : x ≠ []) (h : m_rck i c (pc, .invokevirtual idx, len, x) = true) : m_kV m_G (m_My M).cls idx x := by
  obtain ⟨mi, na, kd, rfl, r, hr, e1, e2, e3, e4, e5⟩ := m_rk_call hx hx0 (Or.inl ⟨rfl, rfl⟩) h
  have hlk : m_lok (m_own c) r = true := m_in17 (T := fun c => m_MLt.getD c []) (f := fun c => m_lok (m_own c)) m_ML_ok hc17 hr
  obtain ⟨Mj, t, g1, g2, g3, g4, -, -⟩ := m_lok_s hlk
  obtain ⟨f1, f2, f3, f4⟩ := g4 e2
  rw [e3] at g1 g2
  rw [e4] at f1
  rw [e5] at f2 f3
  rw [e1] at f4
  rcases m_wds g2 (by omega) with hw | hw
  · obtain ⟨w1, w2, -, -⟩ := m_mok_s hw
    obtain ⟨w3, w4, w5⟩ := w2 (g3.trans e2)
    cases hq : vwCl[kd - 1]? with
    | none => rw [hq] at f3; cases f3
    | some q =>
      rw [hq] at f3
      exact ⟨Mj, t.1, q, g1, f1, w5, w1, by rw [hc]; exact f4, w3, w4, f2, hq, Option.some.inj f3⟩
  · obtain ⟨-, -, -, w4, -, -⟩ := m_wck_s hw
    omega
theorem m_kS_of (hc : (m_My M).cls = m_own c) (hc17 : c < 17) (hx : ∀ k, x ≠ [k]) (hx0 : x ≠ []) (h : m_rck i c (pc, .invokestatic idx, len, x) = true) : m_kS m_G (m_My M).cls idx x ∨ m_kW m_G (m_My M).cls idx x := by
  obtain ⟨mi, na, kd, rfl, r, hr, e1, e2, e3, e4, e5⟩ := m_rk_call hx hx0 (Or.inr (Or.inl ⟨rfl, rfl⟩)) h
  have hlk : m_lok (m_own c) r = true := m_in17 (T := fun c => m_MLt.getD c []) (f := fun c => m_lok (m_own c)) m_ML_ok hc17 hr
  obtain ⟨Mj, t, g1, g2, g3, -, g4, -⟩ := m_lok_s hlk
  obtain ⟨f1, f4⟩ := g4 e2
  rw [e3] at g1 g2
  rw [e4] at f1
  rw [e1] at f4
  rcases m_wds g2 (by omega) with hw | hw
  · obtain ⟨w1, -, w2, -⟩ := m_mok_s hw
    obtain ⟨w3, w5⟩ := w2 (g3.trans e2)
    exact Or.inl ⟨Mj, t.1, g1, f1, w5, w1, by rw [hc]; exact f4, w3⟩
  · obtain ⟨w1, w3, w5, w4, -, -⟩ := m_wck_s hw
    exact Or.inr ⟨Mj, t.1, g1, f1, w5, w1, by rw [hc]; exact f4, w3⟩
theorem m_kI_of (hc : (m_My M).cls = m_own c) (hc17 : c < 17) (hx : ∀ k, x ≠ [k]) (hx0 : x ≠ []) (h : m_rck i c (pc, .invokespecial idx, len, x) = true) : m_kI m_G (m_My M).cls idx x := by
  obtain ⟨mi, na, kd, rfl, r, hr, e1, e2, e3, e4, e5⟩ := m_rk_call hx hx0 (Or.inr (Or.inr ⟨rfl, rfl⟩)) h
  have hlk : m_lok (m_own c) r = true := m_in17 (T := fun c => m_MLt.getD c []) (f := fun c => m_lok (m_own c)) m_ML_ok hc17 hr
  obtain ⟨Mj, t, g1, g2, g3, -, -, g4⟩ := m_lok_s hlk
  obtain ⟨f1, f2, f4⟩ := g4 e2
  rw [e3] at g1 g2
  rw [e4] at f1
  rw [e5] at f2
  rw [e1] at f4
  rcases m_wds g2 (by omega) with hw | hw
  · obtain ⟨w1, -, -, w2⟩ := m_mok_s hw
    obtain ⟨w3, w4, w5, w6⟩ := w2 (g3.trans e2)
    exact ⟨Mj, t.1, g1, f1, w4, w1, f2, w6, w5, w3, by rw [hc]; exact f4⟩
  · obtain ⟨-, -, -, w4, -, -⟩ := m_wck_s hw
    omega
theorem m_kL_of {wd : Nat} {r : Nat × Nat × Nat × Nat} {own : String} {k v : Nat} (h : m_cok own r = true) (e1 : r.1 = idx) (e2 : r.2.1 = k) (e3 : r.2.2.1 = v) (hw : (wd < 2 ∧ k ≠ 2) ∨ (wd = 2 ∧ k = 2)) : m_kL own idx [k, v] wd := by
  unfold m_cok at h
  rw [e1, e2, e3] at h
  split at h
  · exact ⟨by omega, m_is_s h⟩
  · split at h
    · rename_i q hq
      simp only [Bool.and_eq_true, decide_eq_true_eq] at h
      exact ⟨by omega, _, q, hq, h.1, h.2.1, h.2.2⟩
    · cases h
  · exact ⟨by omega, m_is_s h⟩
  · cases h
set_option maxHeartbeats 1000000 in
theorem m_lnk_of {ins : Instr} (hc : (m_My M).cls = m_own c) (hc17 : c < 17) (hi : i = ((m_My M).name == "<init>")) (hd : decode (m_Mb M) pc = .ok (ins, len)) (hln : m_sw ins = false → len = m_len ins) (hj : m_jok c (pc, ins, len, x) = true) (h : m_rck i c (pc, ins, len, x) = true) : m_lnk l D cA b ex sc M pc ins x := by
  have fld : ∀ {r : mF}, r ∈ m_FLt.getD c [] → m_fok (m_own c) r = true := fun hr => m_in17 (T := fun c => m_FLt.getD c []) (f := fun c => m_fok (m_own c)) m_FL_ok hc17 hr
  have con : ∀ {r : Nat × Nat × Nat × Nat}, r ∈ m_CLt.getD c [] → m_cok (m_own c) r = true := fun hr => m_in17 (T := fun c => m_CLt.getD c []) (f := fun c => m_cok (m_own c)) m_CL_ok hc17 hr
  cases ins with
  | getfield j =>
    obtain ⟨r, hr, hq⟩ := List.any_eq_true.mp h
    rw [Bool.and_eq_true, beq_iff_eq, beq_iff_eq] at hq
    obtain ⟨h1, h2⟩ := hq
    dsimp only at h2
    subst h2
    show m_kF (m_My M).cls j r.2.1 r.2.2.1 r.2.2.2.1
    rw [hc, ← h1]
    exact (m_fok_s (fld hr)).1
  | putfield j =>
    obtain ⟨r, hr, hq⟩ := List.any_eq_true.mp h
    simp only [Bool.and_eq_true, Bool.or_eq_true, beq_iff_eq] at hq
    obtain ⟨h1, h2, h3⟩ := hq
    subst h2
    obtain ⟨f1, f2⟩ := m_fok_s (fld hr)
    refine ⟨?_, fun q hq => ?_⟩
    · show m_kF (m_My M).cls j r.2.1 r.2.2.1 r.2.2.2.1
      rw [hc, ← h1]
      exact f1
    · obtain ⟨g1, g2⟩ := f2 q hq
      show (q.2.1 r.2.2.1).2.2.2 = false ∨ ((q.2.1 r.2.2.1).2.2.2 = true ∧ (m_My M).name = "<init>" ∧ (q.2.1 r.2.2.1).1 = (m_My M).cls)
      rcases h3 with h3 | ⟨h3, h4⟩
      · left
        rw [g1, h3]
        rfl
      · have h5 : (m_My M).name = "<init>" := by
          rw [hi] at h3
          exact beq_iff_eq.mp h3
        cases hfin : (q.2.1 r.2.2.1).2.2.2 with
        | false => exact Or.inl rfl
        | true =>
          refine Or.inr ⟨rfl, h5, ?_⟩
          rw [g2, hc, ← h4]
          exact m_vwn _ _ hq
  | new j =>
    intro hx0
    match x, hx0, h with
    | [], _, h => cases h
    | [_], _, h => simp [m_rck] at h
    | [0, ci], _, h =>
      obtain ⟨r, hr, hq⟩ := List.any_eq_true.mp h
      rw [Bool.and_eq_true, beq_iff_eq, beq_iff_eq] at hq
      have hn : m_nok (m_own c) r = true := m_in17 (T := fun c => m_NLt.getD c []) (f := fun c => m_nok (m_own c)) m_NL_ok hc17 hr
      have g := m_nok_s hn
      rw [hq.1, hq.2] at g
      rw [hc]
      exact g
    | [k + 1, _], hx0, _ => cases hx0
    | 0 :: _ :: _ :: _, _, h => cases h
    | (k + 1) :: _ :: _ :: _, hx0, _ => cases hx0
  | ldc j =>
    match x, h with
    | [], h => cases h
    | [_], h => cases h
    | [k, v], h =>
      have h2 : (k != 2 && (m_CLt.getD c []).any (fun r => r.1 == j && (r.2.1 == k && r.2.2.1 == v))) = true := h
      rw [Bool.and_eq_true, bne_iff_ne] at h2
      obtain ⟨r, hr, hq⟩ := List.any_eq_true.mp h2.2
      simp only [Bool.and_eq_true, beq_iff_eq] at hq
      show m_kL (m_My M).cls j [k, v] 0
      rw [hc]
      exact m_kL_of (con hr) hq.1 hq.2.1 hq.2.2 (Or.inl ⟨by omega, h2.1⟩)
    | _ :: _ :: _ :: _, h => cases h
  | ldc_w j =>
    match x, h with
    | [], h => cases h
    | [_], h => cases h
    | [k, v], h =>
      have h2 : (k != 2 && (m_CLt.getD c []).any (fun r => r.1 == j && (r.2.1 == k && r.2.2.1 == v))) = true := h
      rw [Bool.and_eq_true, bne_iff_ne] at h2
      obtain ⟨r, hr, hq⟩ := List.any_eq_true.mp h2.2
      simp only [Bool.and_eq_true, beq_iff_eq] at hq
      show m_kL (m_My M).cls j [k, v] 1
      rw [hc]
      exact m_kL_of (con hr) hq.1 hq.2.1 hq.2.2 (Or.inl ⟨by omega, h2.1⟩)
    | _ :: _ :: _ :: _, h => cases h
  | ldc2_w j =>
    match x, h with
    | [], h => cases h
    | [_], h => simp [m_rck] at h
    | [0, _], h => cases h
    | [1, _], h => cases h
    | [2, v], h =>
      have h2 : (m_CLt.getD c []).any (fun r => r.1 == j && (r.2.1 == 2 && r.2.2.1 == v)) = true := h
      obtain ⟨r, hr, hq⟩ := List.any_eq_true.mp h2
      simp only [Bool.and_eq_true, beq_iff_eq] at hq
      show m_kL (m_My M).cls j [2, v] 2
      rw [hc]
      exact m_kL_of (con hr) hq.1 hq.2.1 hq.2.2 (Or.inr ⟨rfl, rfl⟩)
    | [_ + 3, _], h => cases h
    | _ :: _ :: _ :: _, h => simp [m_rck] at h
  | invokevirtual j =>
    intro k hk
    subst hk
    have hl3 : len = 3 := hln rfl
    subst hl3
    exact m_jv_s hc hj hd
  | invokestatic j =>
    intro k hk
    subst hk
    have hl3 : len = 3 := hln rfl
    subst hl3
    exact m_js_s hc hj hd
  | invokespecial j =>
    intro hk
    subst hk
    obtain ⟨r, hr, hq⟩ := List.any_eq_true.mp h
    rw [beq_iff_eq] at hq
    have ho : m_ook (m_own c) r = true := m_in17 (T := fun c => m_OLt.getD c []) (f := fun c => m_ook (m_own c)) m_OL_ok hc17 hr
    have g := m_is_s ho
    rw [hq] at g
    exact ⟨by rw [hc]; exact g, mw_oi, mw_oc⟩
  | _ => trivial
theorem m_ths_s {rs : List (Nat × mRow)} {e : Nat} {y : List Nat} (h : (pc, Instr.new idx, len, 1 :: e :: y) ∈ rs) : (pc, e) ∈ m_ths rs := List.mem_filterMap.mpr ⟨_, h, rfl⟩
theorem m_good_of {rs : List (Nat × mRow)} {S : List (Nat × Nat)} (hc17 : c < 17) (hM : ∀ pc, m_Mc M pc = rs.lookup pc) (hk : m_mck c M rs = true) (hj : rs.all (m_jok c) = true) (hs : m_ths rs = S) (hth : ∀ z ∈ S, m_thP l D cA b ex sc M z.1 z.2) (hca : m_Mh M = [] ∨ ((∃ r, m_Mh M = [r]) ∧ (m_My M).cls = "FerryHallLaw")) : m_good l D cA b ex sc m_G M := by
  unfold m_mck at hk
  rw [Bool.and_eq_true, decide_eq_true_eq] at hk
  obtain ⟨hc, hall⟩ := hk
  have row : ∀ {pc len : Nat} {ins : Instr} {x : List Nat}, m_Mc M pc = some (ins, len, x) → (pc, ins, len, x) ∈ rs ∧ decode (m_Mb M) pc = .ok (ins, len) ∧ (m_sw ins = false → len = m_len ins) ∧ m_rck ((m_My M).name == "<init>") c (pc, ins, len, x) = true ∧ m_jok c (pc, ins, len, x) = true := by
    intro pc len ins x h
    rw [hM] at h
    have hm := m_lookup h
    have h1 := List.all_eq_true.mp hall _ hm
    rw [Bool.and_eq_true] at h1
    obtain ⟨h2, h3⟩ := h1
    unfold m_dck at h2
    simp only [Bool.and_eq_true, Bool.or_eq_true, decide_eq_true_eq, beq_iff_eq] at h2
    refine ⟨hm, h2.1, fun hsw => ?_, h3, List.all_eq_true.mp hj _ hm⟩
    rcases h2.2 with h4 | h4
    · rw [hsw] at h4; cases h4
    · exact h4
  have hrow : m_row l D cA b ex sc M := by
    intro pc ins len x h
    obtain ⟨r1, r2, r3, r4, r5⟩ := row h
    exact ⟨r2, r3, m_lnk_of hc hc17 rfl r2 r3 r5 r4⟩
  refine ⟨hrow, fun pc idx len x h => ?_, fun pc idx len x h => ?_, fun pc idx len x h => ?_, fun pc idx len e0 y h => ?_, fun hne => ?_⟩
  · obtain ⟨r1, r2, r3, r4, r5⟩ := row h
    by_cases hx : ∃ k, x = [k]
    · exact Or.inl hx
    · by_cases hx0 : x = []
      · subst hx0; cases r4
      · exact Or.inr (m_kV_of hc hc17 (fun k q => hx ⟨k, q⟩) hx0 r4)
  · obtain ⟨r1, r2, r3, r4, r5⟩ := row h
    by_cases hx : ∃ k, x = [k]
    · exact Or.inl hx
    · by_cases hx0 : x = []
      · subst hx0; cases r4
      · exact Or.inr (m_kS_of hc hc17 (fun k q => hx ⟨k, q⟩) hx0 r4)
  · obtain ⟨r1, r2, r3, r4, r5⟩ := row h
    by_cases hx0 : x = []
    · exact Or.inl hx0
    · by_cases hx : ∃ k, x = [k]
      · obtain ⟨k, rfl⟩ := hx
        cases r4
      · exact Or.inr (m_kI_of hc hc17 (fun k q => hx ⟨k, q⟩) hx0 r4)
  · obtain ⟨r1, -⟩ := row h
    have h1 := m_ths_s r1
    rw [hs] at h1
    exact hth _ h1
  · rcases hca with hca | ⟨⟨r, hr⟩, hcl⟩
    · exact absurd hca hne
    · exact m_caP_of hrow hr hcl
end MGD
