/-! call sites -/
section MCS
variable {p : Program} {l : Launch} {e : Env} {s : State} {m : MethodId} {args : Array Value} {below : List Frame} {meth : Method} {c : Code} {H : Heap} {locs : List Loc} {pc : Nat} {lsC : Array Slot} {cells slots mc ms C1 S1 d : Nat}
variable {b : Nat} {ex : Nat → Nat} {D : va_G} {cA : Nat → Nat} {sc : mS} {M Mj : mM} {w : mW} {Qc : Array Value → State → Outcome → State → Prop} {XC : String → State → State → Prop}
theorem m_split {st : List Value} {na : Nat} (f : Value → Value) : st.map f = (((st.take na).reverse).map f).reverse ++ (st.drop na).map f := by
  rw [List.map_reverse, List.reverse_reverse, ← List.map_append, List.take_append_drop]
theorem m_runV {st r0 : List Value} {a na kd idx n : Nat} {q : vw_C} (hbd : m_bd D cA b ex sc M p s m args meth c) (hls : lsC.size = m_Ml M) (hH : m_H b ex D cA w H) (hS : va_S (m_A b) s.heap H locs) (hoa : m_okr w a)
    (hst : (st.take na).reverse = .ref a :: r0) (hna : na ≤ st.length) (hn : na = n + 1) (hkd : a % 32 = kd) (h1 : 1 ≤ kd) (hq : vwCl[kd - 1]? = some q) (hqc : q.1 = (m_My Mj).cls) (hcat : ((st.drop na).map (fun v => v.category)).sum ≤ 8)
    (hkB : m_kB Mj n) (hl : Cond.methodLink (m_My M).cls idx (m_My Mj) ∈ m_tbl) (hin : Cond.instanceMethod (m_My Mj) ∈ m_tbl) (hse : Cond.selects (m_My Mj).cls (m_My Mj) (m_My Mj) ∈ m_tbl) (hd : decode (m_Mb M) pc = .ok (.invokevirtual idx, 3))
    (hf : cells + mc ≤ C1 ∧ slots + ms ≤ S1) (hM : Met l (m_My Mj) (m_ws Mj) (m_rm d mc ms) (m_Pc D cA b ex sc (.ref a :: r0) w) Qc mc ms (m_A b)) : va_Run p l e (m_rm (d + 1) C1 S1) s m args below meth c H locs cells slots mc ms (F0 m pc lsC (st.map (m_cv b ex))) ((st.drop na).map (m_cv b ex)) (Qc ((Value.ref a :: r0).map (m_cv b ex)).toArray) (m_A b) := by
  obtain ⟨hx, hb, hr, hml, hts, hown, hnm, hlocks, htab, hKn⟩ := hbd
  obtain ⟨k1, k2, k3, k4, k5, k6⟩ := hkB
  have hci : kd - 1 < 11 := (List.getElem?_eq_some_iff.mp hq).1
  have h0 : ¬ a = 0 := fun z => by subst z; simp at hkd; omega
  have hat := m_H_obj hH (a := a) (ci := kd - 1) hoa (by omega) (by omega)
  have hlen : r0.length = n := by
    have z := congrArg List.length hst
    simp [List.length_take] at z
    omega
  have hstk : st.map (m_cv b ex) = (r0.map (m_cv b ex)).reverse ++ .ref (m_ad b ex a) :: (st.drop na).map (m_cv b ex) := by
    rw [m_split (na := na) (m_cv b ex), hst, List.map_cons, m_cv_ref h0, List.reverse_cons, List.append_assoc]
    rfl
  have har : (Value.ref a :: r0).map (m_cv b ex) = Value.ref (m_ad b ex a) :: r0.map (m_cv b ex) := by rw [List.map_cons, m_cv_ref h0]
  rw [har]
  refine va_runV (Ts := m_tbl) (C := (m_My Mj).cls) (bytes := m_Mb Mj) (maxL := m_Ml Mj) (ret := m_Mr Mj) (n := n) ⟨hx, hb, hml, hown, hts⟩ hM ⟨callB_of n hts (m_goodIn k1) rfl rfl rfl (hts _ k2) (hts _ hl) k3 ⟨?_, ?_⟩, hts _ hin, hts _ hse⟩ ⟨m_Pc_blind, ?_, fun U hU hW => ⟨by rw [har], by rw [hU]; exact hH, m_Kn_to hW (by rw [hU]; exact hS) hKn⟩⟩ rfl (by rw [List.length_map]; exact hlen) hls hstk ?_ hd hf
  · show d + 12 + 1 ≤ d + 1 + 12
    omega
  · show 8 + (m_Ml Mj + 11) + (64 * d + 400) ≤ 64 * (d + 1) + 400
    omega
  · have hrv := va_recv hKn.1 (m_one hat) hq (q0 := 0) rfl
    rw [hqc] at hrv
    exact hrv
  · rw [m_cat_map]
    show 2 * 0 + _ ≤ 8
    omega
theorem m_runVx {st r0 : List Value} {a na kd idx n : Nat} {q : vw_C} (hbd : m_bd D cA b ex sc M p s m args meth c) (hls : lsC.size = m_Ml M) (hH : m_H b ex D cA w H) (hS : va_S (m_A b) s.heap H locs) (hoa : m_okr w a)
    (hst : (st.take na).reverse = .ref a :: r0) (hna : na ≤ st.length) (hn : na = n + 1) (hkd : a % 32 = kd) (h1 : 1 ≤ kd) (hq : vwCl[kd - 1]? = some q) (hqc : q.1 = (m_My Mj).cls) (hcat : ((st.drop na).map (fun v => v.category)).sum ≤ 8)
    (hkB : m_kB Mj n) (hl : Cond.methodLink (m_My M).cls idx (m_My Mj) ∈ m_tbl) (hin : Cond.instanceMethod (m_My Mj) ∈ m_tbl) (hse : Cond.selects (m_My Mj).cls (m_My Mj) (m_My Mj) ∈ m_tbl) (hd : decode (m_Mb M) pc = .ok (.invokevirtual idx, 3))
    (hf : cells + mc ≤ C1 ∧ slots + ms ≤ S1) (hM : vx_Met l (m_My Mj) (m_ws Mj) (m_rm d mc ms) (m_Pc D cA b ex sc (.ref a :: r0) w) Qc XC mc ms (m_A b)) : vx_Run p l e (m_rm (d + 1) C1 S1) s m args below meth c H locs cells slots mc ms (F0 m pc lsC (st.map (m_cv b ex))) ((st.drop na).map (m_cv b ex)) (Qc ((Value.ref a :: r0).map (m_cv b ex)).toArray) XC (m_A b) := by
  obtain ⟨hx, hb, hr, hml, hts, hown, hnm, hlocks, htab, hKn⟩ := hbd
  obtain ⟨k1, k2, k3, k4, k5, k6⟩ := hkB
  have hci : kd - 1 < 11 := (List.getElem?_eq_some_iff.mp hq).1
  have h0 : ¬ a = 0 := fun z => by subst z; simp at hkd; omega
  have hat := m_H_obj hH (a := a) (ci := kd - 1) hoa (by omega) (by omega)
  have hlen : r0.length = n := by
    have z := congrArg List.length hst
    simp [List.length_take] at z
    omega
  have hstk : st.map (m_cv b ex) = (r0.map (m_cv b ex)).reverse ++ .ref (m_ad b ex a) :: (st.drop na).map (m_cv b ex) := by
    rw [m_split (na := na) (m_cv b ex), hst, List.map_cons, m_cv_ref h0, List.reverse_cons, List.append_assoc]
    rfl
  have har : (Value.ref a :: r0).map (m_cv b ex) = Value.ref (m_ad b ex a) :: r0.map (m_cv b ex) := by rw [List.map_cons, m_cv_ref h0]
  rw [har]
  refine vx_runV (Ts := m_tbl) (C := (m_My Mj).cls) (bytes := m_Mb Mj) (maxL := m_Ml Mj) (ret := m_Mr Mj) (n := n) ⟨hx, hb, hml, hown, hts⟩ hM ⟨callB_of n hts (m_goodIn k1) rfl rfl rfl (hts _ k2) (hts _ hl) k3 ⟨?_, ?_⟩, hts _ hin, hts _ hse⟩ ⟨m_Pc_blind, ?_, fun U hU hW => ⟨by rw [har], by rw [hU]; exact hH, m_Kn_to hW (by rw [hU]; exact hS) hKn⟩⟩ rfl (by rw [List.length_map]; exact hlen) hls hstk ?_ hd hf
  · show d + 12 + 1 ≤ d + 1 + 12
    omega
  · show 8 + (m_Ml Mj + 11) + (64 * d + 400) ≤ 64 * (d + 1) + 400
    omega
  · have hrv := va_recv hKn.1 (m_one hat) hq (q0 := 0) rfl
    rw [hqc] at hrv
    exact hrv
  · rw [m_cat_map]
    show 2 * 0 + _ ≤ 8
    omega
theorem m_runS {st : List Value} {na idx n : Nat} (hbd : m_bd D cA b ex sc M p s m args meth c) (hls : lsC.size = m_Ml M) (hH : m_H b ex D cA w H) (hS : va_S (m_A b) s.heap H locs)
    (hna : na ≤ st.length) (hn : na = n) (hcat : ((st.drop na).map (fun v => v.category)).sum ≤ 8)
    (hkB : m_kB Mj n) (hl : Cond.methodLink (m_My M).cls idx (m_My Mj) ∈ m_tbl) (hin : Cond.static (m_My Mj) ∈ m_tbl) (hd : decode (m_Mb M) pc = .ok (.invokestatic idx, 3))
    (hf : cells + mc ≤ C1 ∧ slots + ms ≤ S1) (hM : Met l (m_My Mj) (m_ws Mj) (m_rm d mc ms) (m_Pc D cA b ex sc ((st.take na).reverse) w) Qc mc ms (m_A b)) : va_Run p l e (m_rm (d + 1) C1 S1) s m args below meth c H locs cells slots mc ms (F0 m pc lsC (st.map (m_cv b ex))) ((st.drop na).map (m_cv b ex)) (Qc (((st.take na).reverse).map (m_cv b ex)).toArray) (m_A b) := by
  obtain ⟨hx, hb, hr, hml, hts, hown, hnm, hlocks, htab, hKn⟩ := hbd
  obtain ⟨k1, k2, k3, k4, k5, k6⟩ := hkB
  refine va_runS (Ts := m_tbl) (bytes := m_Mb Mj) (maxL := m_Ml Mj) (ret := m_Mr Mj) (n := n) ⟨hx, hb, hml, hown, hts⟩ hM ⟨callB_of n hts (m_goodIn k1) rfl rfl rfl (hts _ k2) (hts _ hl) k3 ⟨?_, ?_⟩, hts _ hin⟩ ⟨m_Pc_blind, fun U hU hW => ⟨rfl, by rw [hU]; exact hH, m_Kn_to hW (by rw [hU]; exact hS) hKn⟩⟩ rfl ?_ hls (m_split _) ?_ hd hf
  · show d + 12 + 1 ≤ d + 1 + 12
    omega
  · show 8 + (m_Ml Mj + 11) + (64 * d + 400) ≤ 64 * (d + 1) + 400
    omega
  · simp [List.length_take]
    omega
  · rw [m_cat_map]
    show 2 * 0 + _ ≤ 8
    omega
theorem m_runSx {st : List Value} {na idx n : Nat} (hbd : m_bd D cA b ex sc M p s m args meth c) (hls : lsC.size = m_Ml M) (hH : m_H b ex D cA w H) (hS : va_S (m_A b) s.heap H locs)
    (hna : na ≤ st.length) (hn : na = n) (hcat : ((st.drop na).map (fun v => v.category)).sum ≤ 8)
    (hkB : m_kB Mj n) (hl : Cond.methodLink (m_My M).cls idx (m_My Mj) ∈ m_tbl) (hin : Cond.static (m_My Mj) ∈ m_tbl) (hd : decode (m_Mb M) pc = .ok (.invokestatic idx, 3))
    (hf : cells + mc ≤ C1 ∧ slots + ms ≤ S1) (hM : vx_Met l (m_My Mj) (m_ws Mj) (m_rm d mc ms) (m_Pc D cA b ex sc ((st.take na).reverse) w) Qc XC mc ms (m_A b)) : vx_Run p l e (m_rm (d + 1) C1 S1) s m args below meth c H locs cells slots mc ms (F0 m pc lsC (st.map (m_cv b ex))) ((st.drop na).map (m_cv b ex)) (Qc (((st.take na).reverse).map (m_cv b ex)).toArray) XC (m_A b) := by
  obtain ⟨hx, hb, hr, hml, hts, hown, hnm, hlocks, htab, hKn⟩ := hbd
  obtain ⟨k1, k2, k3, k4, k5, k6⟩ := hkB
  refine vx_runS (Ts := m_tbl) (bytes := m_Mb Mj) (maxL := m_Ml Mj) (ret := m_Mr Mj) (n := n) ⟨hx, hb, hml, hown, hts⟩ hM ⟨callB_of n hts (m_goodIn k1) rfl rfl rfl (hts _ k2) (hts _ hl) k3 ⟨?_, ?_⟩, hts _ hin⟩ ⟨m_Pc_blind, fun U hU hW => ⟨rfl, by rw [hU]; exact hH, m_Kn_to hW (by rw [hU]; exact hS) hKn⟩⟩ rfl ?_ hls (m_split _) ?_ hd hf
  · show d + 12 + 1 ≤ d + 1 + 12
    omega
  · show 8 + (m_Ml Mj + 11) + (64 * d + 400) ≤ 64 * (d + 1) + 400
    omega
  · simp [List.length_take]
    omega
  · rw [m_cat_map]
    show 2 * 0 + _ ≤ 8
    omega
theorem m_goodInW {Mj : mM} {own : String} {idx : Nat} (h : Cond.codeWith (m_My Mj) (m_Mb Mj) (m_Ml Mj) (m_Mr Mj) (m_Mh Mj) ∈ m_tbl) (h2 : Cond.initialized (m_My Mj).cls ∈ m_tbl) (h3 : Cond.methodLink own idx (m_My Mj) ∈ m_tbl) (h4 : Cond.static (m_My Mj) ∈ m_tbl) : GoodIn m_tbl (va_wsS own idx (m_My Mj) (m_wsW Mj)) := by
  have hin : ∀ w ∈ va_wsS own idx (m_My Mj) (m_wsW Mj), w ∈ m_tbl := by
    intro w hw
    unfold va_wsS at hw
    rcases List.mem_append.mp hw with q | q
    · simp only [List.mem_cons, List.not_mem_nil, or_false] at q
      rcases q with q | q | q <;> (rw [q]; assumption)
    · rcases List.mem_cons.mp q with q | q
      · rw [q]; exact h
      · exact q
  exact fun w hw => ⟨hin w hw, good_of_word (m_tbl_good w (hin w hw))⟩
theorem m_runW {st : List Value} {na idx n : Nat} (hbd : m_bd D cA b ex sc M p s m args meth c) (hls : lsC.size = m_Ml M) (hH : m_H b ex D cA w H) (hS : va_S (m_A b) s.heap H locs)
    (hna : na ≤ st.length) (hn : na = n) (hcat : ((st.drop na).map (fun v => v.category)).sum ≤ 8)
    (hkB : m_kBW Mj n) (hl : Cond.methodLink (m_My M).cls idx (m_My Mj) ∈ m_tbl) (hin : Cond.static (m_My Mj) ∈ m_tbl) (hd : decode (m_Mb M) pc = .ok (.invokestatic idx, 3))
    (hf : cells + mc ≤ C1 ∧ slots + ms ≤ S1) (hM : Met l (m_My Mj) (m_wsW Mj) (m_rm d mc ms) (m_Pc D cA b ex sc ((st.take na).reverse) w) Qc mc ms (m_A b)) : va_Run p l e (m_rm (d + 1) C1 S1) s m args below meth c H locs cells slots mc ms (F0 m pc lsC (st.map (m_cv b ex))) ((st.drop na).map (m_cv b ex)) (Qc (((st.take na).reverse).map (m_cv b ex)).toArray) (m_A b) := by
  obtain ⟨hx, hb, hr, hml, hts, hown, hnm, hlocks, htab, hKn⟩ := hbd
  obtain ⟨k1, k2, k3, k4, k5⟩ := hkB
  refine vx_runSW (Ts := m_tbl) (bytes := m_Mb Mj) (maxL := m_Ml Mj) (ret := m_Mr Mj) (hh := m_Mh Mj) (n := n) ⟨hx, hb, hml, hown, hts⟩ hM (vx_cwSW (ws' := m_tbl) n hts (m_goodInW k1 k2 hl hin) rfl rfl rfl k3 ⟨?_, ?_⟩) ⟨m_Pc_blind, fun U hU hW => ⟨rfl, by rw [hU]; exact hH, m_Kn_to hW (by rw [hU]; exact hS) hKn⟩⟩ rfl ?_ hls (m_split _) ?_ hd hf
  · show d + 12 + 1 ≤ d + 1 + 12
    omega
  · show 8 + (m_Ml Mj + 11) + (64 * d + 400) ≤ 64 * (d + 1) + 400
    omega
  · simp [List.length_take]
    omega
  · rw [m_cat_map]
    show 2 * 0 + _ ≤ 8
    omega
theorem m_runWx {st : List Value} {na idx n : Nat} (hbd : m_bd D cA b ex sc M p s m args meth c) (hls : lsC.size = m_Ml M) (hH : m_H b ex D cA w H) (hS : va_S (m_A b) s.heap H locs)
    (hna : na ≤ st.length) (hn : na = n) (hcat : ((st.drop na).map (fun v => v.category)).sum ≤ 8)
    (hkB : m_kBW Mj n) (hl : Cond.methodLink (m_My M).cls idx (m_My Mj) ∈ m_tbl) (hin : Cond.static (m_My Mj) ∈ m_tbl) (hd : decode (m_Mb M) pc = .ok (.invokestatic idx, 3))
    (hf : cells + mc ≤ C1 ∧ slots + ms ≤ S1) (hM : vx_Met l (m_My Mj) (m_wsW Mj) (m_rm d mc ms) (m_Pc D cA b ex sc ((st.take na).reverse) w) Qc XC mc ms (m_A b)) : vx_Run p l e (m_rm (d + 1) C1 S1) s m args below meth c H locs cells slots mc ms (F0 m pc lsC (st.map (m_cv b ex))) ((st.drop na).map (m_cv b ex)) (Qc (((st.take na).reverse).map (m_cv b ex)).toArray) XC (m_A b) := by
  obtain ⟨hx, hb, hr, hml, hts, hown, hnm, hlocks, htab, hKn⟩ := hbd
  obtain ⟨k1, k2, k3, k4, k5⟩ := hkB
  refine vx_runSX (Ts := m_tbl) (bytes := m_Mb Mj) (maxL := m_Ml Mj) (ret := m_Mr Mj) (hh := m_Mh Mj) (n := n) ⟨hx, hb, hml, hown, hts⟩ hM (vx_cwSW (ws' := m_tbl) n hts (m_goodInW k1 k2 hl hin) rfl rfl rfl k3 ⟨?_, ?_⟩) ⟨m_Pc_blind, fun U hU hW => ⟨rfl, by rw [hU]; exact hH, m_Kn_to hW (by rw [hU]; exact hS) hKn⟩⟩ rfl ?_ hls (m_split _) ?_ hd hf
  · show d + 12 + 1 ≤ d + 1 + 12
    omega
  · show 8 + (m_Ml Mj + 11) + (64 * d + 400) ≤ 64 * (d + 1) + 400
    omega
  · simp [List.length_take]
    omega
  · rw [m_cat_map]
    show 2 * 0 + _ ≤ 8
    omega
theorem m_runI {st r0 : List Value} {a na idx n : Nat} (hbd : m_bd D cA b ex sc M p s m args meth c) (hls : lsC.size = m_Ml M) (hH : m_H b ex D cA w H) (hS : va_S (m_A b) s.heap H locs) (h0 : ¬ a = 0)
    (hst : (st.take na).reverse = .ref a :: r0) (hna : na ≤ st.length) (hn : na = n + 1) (hcat : ((st.drop na).map (fun v => v.category)).sum ≤ 8)
    (hkB : m_kB Mj n) (hret : m_Mr Mj = none) (hnam : (m_My Mj).name = "<init>") (hl : Cond.methodLink (m_My M).cls idx (m_My Mj) ∈ m_tbl ∨ ((m_My M).cls = "FerryHall" ∧ (idx, m_My Mj) ∈ m_nst)) (hin : Cond.instanceMethod (m_My Mj) ∈ m_tbl) (hd : decode (m_Mb M) pc = .ok (.invokespecial idx, 3))
    (hf : cells + mc ≤ C1 ∧ slots + ms ≤ S1) (hM : Met l (m_My Mj) (m_ws Mj) (m_rm d mc ms) (m_Pc D cA b ex sc (.ref a :: r0) w) Qc mc ms (m_A b)) : va_Run p l e (m_rm (d + 1) C1 S1) s m args below meth c H locs cells slots mc ms (F0 m pc lsC (st.map (m_cv b ex))) ((st.drop na).map (m_cv b ex)) (Qc ((Value.ref a :: r0).map (m_cv b ex)).toArray) (m_A b) := by
  obtain ⟨hx, hb, hr, hml, hts, hown, hnm, hlocks, htab, hKn⟩ := hbd
  obtain ⟨k1, k2, k3, k4, k5, k6⟩ := hkB
  have hlen : r0.length = n := by
    have z := congrArg List.length hst
    simp [List.length_take] at z
    omega
  have hstk : st.map (m_cv b ex) = (r0.map (m_cv b ex)).reverse ++ .ref (m_ad b ex a) :: (st.drop na).map (m_cv b ex) := by
    rw [m_split (na := na) (m_cv b ex), hst, List.map_cons, m_cv_ref h0, List.reverse_cons, List.append_assoc]
    rfl
  have har : (Value.ref a :: r0).map (m_cv b ex) = Value.ref (m_ad b ex a) :: r0.map (m_cv b ex) := by rw [List.map_cons, m_cv_ref h0]
  have hw : m_ws Mj = Cond.code (m_My Mj) (m_Mb Mj) (m_Ml Mj) none :: m_tbl := by unfold m_ws; rw [hret]
  have hfr : (m_rm d mc ms).frames + 1 ≤ (m_rm (d + 1) C1 S1).frames := by
    show d + 12 + 1 ≤ d + 1 + 12
    omega
  have hlo : 8 + (m_Ml Mj + 11) + (m_rm d mc ms).locals ≤ (m_rm (d + 1) C1 S1).locals := by
    show 8 + (m_Ml Mj + 11) + (64 * d + 400) ≤ 64 * (d + 1) + 400
    omega
  have hcs : 2 * (F0 m pc lsC (st.map (m_cv b ex))).monitorRoom + (((st.drop na).map (m_cv b ex)).map fun v => v.category).sum ≤ 8 := by
    rw [m_cat_map]
    show 2 * 0 + _ ≤ 8
    omega
  have hpre : PreS s H (m_Pc D cA b ex sc (.ref a :: r0) w) (Value.ref (m_ad b ex a) :: r0.map (m_cv b ex)) := ⟨m_Pc_blind, fun U hU hW => ⟨by rw [har], by rw [hU]; exact hH, m_Kn_to hW (by rw [hU]; exact hS) hKn⟩⟩
  rw [har]
  rcases hl with hl | ⟨ho, hl⟩
  · exact va_runI (Ts := m_tbl) (bytes := m_Mb Mj) (maxL := m_Ml Mj) (n := n) ⟨hx, hb, hml, hown, hts⟩ hM ⟨callB_of n hts (m_goodIn k1) hw rfl rfl (hts _ k2) (hts _ hl) k3 ⟨hfr, hlo⟩, hnam, hts _ hin⟩ hpre rfl (by rw [List.length_map]; exact hlen) hls hstk hcs hd hf
  · have hN : va_Nw (.methodLinkNest (m_My M).cls idx (m_My Mj) "FerryHall") s := by
      have z := hKn.2.2.2.2.2.1 _ hl
      rw [ho]
      exact z
    exact va_runIN (Ts := m_tbl) (bytes := m_Mb Mj) (maxL := m_Ml Mj) (n := n) ⟨hx, hb, hml, hown, hts⟩ hM ⟨va_cnB n hts (m_goodIn k1) hw rfl rfl hN (hts _ k2) k3 ⟨hfr, hlo⟩, hnam, hts _ hin⟩ hpre rfl (by rw [List.length_map]; exact hlen) hls hstk hcs hd hf
end MCS
