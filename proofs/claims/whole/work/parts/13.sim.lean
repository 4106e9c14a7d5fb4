/-! calls, ends, and the whole run -/
def m_exn (e : Nat) : String := if e = 0 then "java/util/NoSuchElementException" else "java/lang/IllegalArgumentException"
def m_Qc (b : Nat) (ex : Nat → Nat) (D : va_G) (cA : Nat → Nat) (r : mR) (w' : mW) : Array Value → State → Outcome → State → Prop := fun _ st o t => (∃ v : Option Value, r = .inl v ∧ o = .returned (v.map (m_cv b ex))) ∧ m_H b ex D cA w' t.heap ∧ va_F (m_A b) st t
def m_XC (b : Nat) (ex : Nat → Nat) (D : va_G) (cA : Nat → Nat) (r : mR) (w' : mW) : String → State → State → Prop := fun E st t => (∃ e : Nat, r = .inr e ∧ E = m_exn e) ∧ m_H b ex D cA w' t.heap ∧ va_F (m_A b) st t
def m_Pc (D : va_G) (cA : Nat → Nat) (b : Nat) (ex : Nat → Nat) (sc : mS) (args : List Value) (w : mW) : Array Value → State → Prop := va_Pc (args.map (m_cv b ex)) (fun U => m_H b ex D cA w U.heap ∧ m_Kn D cA b ex sc U)
def m_ws (M : mM) : List Cond := Cond.code (m_My M) (m_Mb M) (m_Ml M) (m_Mr M) :: m_tbl
/-- a throw site -/
def m_thP (l : Launch) (D : va_G) (cA : Nat → Nat) (b : Nat) (ex : Nat → Nat) (sc : mS) (M : mM) (pc e0 : Nat) : Prop :=
  ∀ (p : Program) (e : Env) (R : Room) (s : State) (m : MethodId) (args : Array Value) (below : List Frame) (meth : Method) (c : Code) (H : Heap) (locs : List Loc) (cells slots mc ms : Nat) (Qc : Array Value → State → Outcome → State → Prop) (XC : String → State → State → Prop) (free : Addr → Prop) (lsC : Array Slot) (st : List Value) (w : mW),
    m_bd D cA b ex sc M p s m args meth c → lsC.size = m_Ml M → m_H b ex D cA w H → va_S (m_A b) s.heap H locs → (st.map (fun v => v.category)).sum ≤ 8 → cells + 1 ≤ R.cells → slots + 6 ≤ R.slots → 12 ≤ R.frames → 400 ≤ R.locals → cells + 1 ≤ mc → slots + 6 ≤ ms →
    (∀ t : State, s.vm.Alike t.vm → t.heap.size = H.size + 1 → (∀ q : Nat, q < H.size → t.heap[q]? = H[q]?) → XC (m_exn e0) s t) → (∀ z ∈ locs, free z.base) →
    W p l e R s m args below meth c H locs cells slots (vx_MQ below Qc XC args s mc ms free) (F0 m pc lsC (st.map (m_cv b ex)))
/-- a method that catches -/
def m_caP (l : Launch) (D : va_G) (cA : Nat → Nat) (b : Nat) (ex : Nat → Nat) (sc : mS) (M : mM) : Prop :=
  ∀ (pc pc' : Nat) (ls ls' : List Value) (e0 : Nat), m_hd M pc ls e0 = some (some (pc', ls')) →
  ∀ (p : Program) (e : Env) (R : Room) (s : State) (m : MethodId) (args : Array Value) (below : List Frame) (meth : Method) (c : Code) (H : Heap) (locs : List Loc) (cells slots : Nat) (Q : State → Prop) (lsC : Array Slot) (rest : List Value) (q : Addr) (ce : Cell),
    m_bd D cA b ex sc M p s m args meth c → m_L b ex ls lsC → H[q]? = some ce → ce.vm = .none → s.vm.findClass (m_exn e0) = some ce.cls →
    (∀ lsC' : Array Slot, m_L b ex ls' lsC' → W p l e R s m args below meth c H locs cells slots Q (F0 m pc' lsC' [])) → vx_W p l e R s m args below meth c H locs cells slots Q (F0 m pc lsC rest) q
def m_kB (Mj : mM) (n : Nat) : Prop := Cond.code (m_My Mj) (m_Mb Mj) (m_Ml Mj) (m_Mr Mj) ∈ m_tbl ∧ Cond.initialized (m_My Mj).cls ∈ m_tbl ∧ ((m_My Mj).cls ≠ "java/lang/invoke/MethodHandle" ∧ (m_My Mj).cls ≠ "java/lang/invoke/VarHandle" ∧ (parseMethodDescriptor (m_My Mj).desc).map (fun d => d.parameters.length) = some n) ∧ plainName (m_My Mj).cls = true ∧ m_Ml Mj ≤ 40 ∧ m_Mh Mj = []
def m_kV (G : Nat → Option mM) (own : String) (idx : Nat) (x : List Nat) : Prop := ∃ (Mj : mM) (n : Nat) (q : vw_C), G (x.getD 0 0) = some Mj ∧ x.getD 1 0 = n + 1 ∧ n + 1 ≤ m_Ml Mj ∧ m_kB Mj n ∧ Cond.methodLink own idx (m_My Mj) ∈ m_tbl ∧ Cond.instanceMethod (m_My Mj) ∈ m_tbl ∧ Cond.selects (m_My Mj).cls (m_My Mj) (m_My Mj) ∈ m_tbl ∧ 1 ≤ x.getD 2 0 ∧ vwCl[x.getD 2 0 - 1]? = some q ∧ q.1 = (m_My Mj).cls
def m_kS (G : Nat → Option mM) (own : String) (idx : Nat) (x : List Nat) : Prop := ∃ (Mj : mM) (n : Nat), G (x.getD 0 0) = some Mj ∧ x.getD 1 0 = n ∧ n ≤ m_Ml Mj ∧ m_kB Mj n ∧ Cond.methodLink own idx (m_My Mj) ∈ m_tbl ∧ Cond.static (m_My Mj) ∈ m_tbl
/-- a static method that catches, called -/
def m_kBW (Mj : mM) (n : Nat) : Prop := Cond.codeWith (m_My Mj) (m_Mb Mj) (m_Ml Mj) (m_Mr Mj) (m_Mh Mj) ∈ m_tbl ∧ Cond.initialized (m_My Mj).cls ∈ m_tbl ∧ ((m_My Mj).cls ≠ "java/lang/invoke/MethodHandle" ∧ (m_My Mj).cls ≠ "java/lang/invoke/VarHandle" ∧ (parseMethodDescriptor (m_My Mj).desc).map (fun d => d.parameters.length) = some n) ∧ plainName (m_My Mj).cls = true ∧ m_Ml Mj ≤ 40
def m_wsW (M : mM) : List Cond := Cond.codeWith (m_My M) (m_Mb M) (m_Ml M) (m_Mr M) (m_Mh M) :: m_tbl
def m_kW (G : Nat → Option mM) (own : String) (idx : Nat) (x : List Nat) : Prop := ∃ (Mj : mM) (n : Nat), G (x.getD 0 0) = some Mj ∧ x.getD 1 0 = n ∧ n ≤ m_Ml Mj ∧ m_kBW Mj n ∧ Cond.methodLink own idx (m_My Mj) ∈ m_tbl ∧ Cond.static (m_My Mj) ∈ m_tbl
def m_kI (G : Nat → Option mM) (own : String) (idx : Nat) (x : List Nat) : Prop := ∃ (Mj : mM) (n : Nat), G (x.getD 0 0) = some Mj ∧ x.getD 1 0 = n + 1 ∧ n + 1 ≤ m_Ml Mj ∧ m_kB Mj n ∧ 1 ≤ x.getD 2 0 ∧ m_Mr Mj = none ∧ (m_My Mj).name = "<init>" ∧ Cond.instanceMethod (m_My Mj) ∈ m_tbl ∧ (Cond.methodLink own idx (m_My Mj) ∈ m_tbl ∨ (own = "FerryHall" ∧ (idx, m_My Mj) ∈ m_nst))
def m_good (l : Launch) (D : va_G) (cA : Nat → Nat) (b : Nat) (ex : Nat → Nat) (sc : mS) (G : Nat → Option mM) (M : mM) : Prop :=
  m_row l D cA b ex sc M ∧ (∀ (pc idx len : Nat) (x : List Nat), m_Mc M pc = some (.invokevirtual idx, len, x) → (∃ k, x = [k]) ∨ m_kV G (m_My M).cls idx x) ∧ (∀ (pc idx len : Nat) (x : List Nat), m_Mc M pc = some (.invokestatic idx, len, x) → (∃ k, x = [k]) ∨ m_kS G (m_My M).cls idx x ∨ m_kW G (m_My M).cls idx x) ∧
  (∀ (pc idx len : Nat) (x : List Nat), m_Mc M pc = some (.invokespecial idx, len, x) → x = [] ∨ m_kI G (m_My M).cls idx x) ∧ (∀ (pc idx len e0 : Nat) (y : List Nat), m_Mc M pc = some (.new idx, len, 1 :: e0 :: y) → m_thP l D cA b ex sc M pc e0) ∧ (m_Mh M ≠ [] → m_caP l D cA b ex sc M)
theorem m_met_of {l : Launch} {y : MethodName} {ws : List Cond} {rm : Room} {Pc : Array Value → State → Prop} {Qc : Array Value → State → Outcome → State → Prop} {XC : String → State → State → Prop} {mc ms : Nat} {free : Addr → Prop} (h : vx_Met l y ws rm Pc Qc XC mc ms free) (hx : ∀ E st t, ¬ XC E st t) : Met l y ws rm Pc Qc mc ms free := by
  intro p e h1 h2 h3 s m args below h4 h5 h6 h7
  obtain ⟨n, o, a1, a2, a3, a4⟩ := h p e h1 h2 h3 s m args below h4 h5 h6 h7
  rcases a4 with a4 | ⟨q, -, E, ce, L, a5, -⟩
  · exact ⟨n, o, a1, a2, a3, a4⟩
  · exact absurd a5 (hx _ _ _)
theorem m_lv_args : ∀ (vs : List Value) (k : Nat), (∀ v ∈ vs, v.category = 1) → ∀ (i : Nat) (v : Value), vs[i]? = some v → (k + i, v) ∈ lv_args k vs := by
  intro vs
  induction vs with
  | nil => intro k _ i v h; simp at h
  | cons a t ih =>
    intro k hc i v h
    have ha : a.category = 1 := hc a List.mem_cons_self
    show (k + i, v) ∈ (k, a) :: lv_args (if a.category = 2 then k + 2 else k + 1) t
    rw [if_neg (by omega)]
    cases i with
    | zero => simp at h; subst h; exact List.mem_cons_self
    | succ j =>
      have h2 := ih (k + 1) (fun v hv => hc v (List.mem_cons_of_mem _ hv)) j v (by simpa using h)
      rw [show k + (j + 1) = k + 1 + j by omega]
      exact List.mem_cons_of_mem _ h2
theorem m_lg_sl : ∀ (vs : List Value), (∀ v ∈ vs, v.category = 1) → (lg_sl vs).length = vs.length := by
  intro vs
  induction vs with
  | nil => intro _; rfl
  | cons a t ih =>
    intro hc
    have ha : a.category = 1 := hc a List.mem_cons_self
    have h2 := ih (fun v hv => hc v (List.mem_cons_of_mem _ hv))
    have h3 : lg_sl (a :: t) = [Slot.val a] ++ lg_sl t := by simp [lg_sl, ha]
    rw [h3, List.length_append, h2]
    simp
    omega
theorem m_en_len {args : List Value} {n : Nat} (h : args.length ≤ n) : (m_en args n).length = n := by
  simp [m_en]; omega
theorem m_L_entry {b : Nat} {ex : Nat → Nat} {args : List Value} {n : Nat} (hc : ∀ v ∈ args, v.category = 1) (hn : args.length ≤ n) : m_L b ex (m_en args n) ((lg_sl (args.map (m_cv b ex)) ++ List.replicate (n - (lg_sl (args.map (m_cv b ex))).length) Slot.unset).toArray) := by
  have hc2 : ∀ v ∈ args.map (m_cv b ex), v.category = 1 := fun v hv => by
    obtain ⟨u, hu, rfl⟩ := List.mem_map.mp hv
    rw [m_cv_cat]; exact hc u hu
  refine ⟨lv_args 0 (args.map (m_cv b ex)), ?_, fun i v hv hn0 => ?_⟩
  · rw [m_en_len hn]
    exact lv_entry _ (by rw [m_lg_sl _ hc2, List.length_map]; exact hn)
  · have hi : args[i]? = some v := by
      unfold m_en at hv
      rcases Nat.lt_or_ge i args.length with q | q
      · rw [List.getElem?_append_left q] at hv; exact hv
      · rw [List.getElem?_append_right q] at hv
        have := List.mem_of_getElem? hv
        exact absurd (List.eq_of_mem_replicate this) hn0
    have h2 := m_lv_args (args.map (m_cv b ex)) 0 hc2 i (m_cv b ex v) (by rw [List.getElem?_map, hi]; rfl)
    rwa [Nat.zero_add] at h2
section MSM
variable {l : Launch} {b : Nat} {ex : Nat → Nat} {D : va_G} {cA : Nat → Nat} {sc : mS} {G : Nat → Option mM}
/-- what a run gives, said of the machine -/
def m_simP (l : Launch) (D : va_G) (cA : Nat → Nat) (b : Nat) (ex : Nat → Nat) (sc : mS) (G : Nat → Option mM) (f : Nat) : Prop :=
  ∀ (d : Nat) (M : mM) (pc : Nat) (ls st : List Value) (w w' : mW) (r : mR), m_good l D cA b ex sc G M → m_run G sc f d M pc ls st w = some (r, w') → m_inv w ls st → ls.length = m_Ml M →
  ∀ (p : Program) (e : Env) (s : State) (m : MethodId) (args : Array Value) (below : List Frame) (meth : Method) (c : Code) (H : Heap) (locs : List Loc) (lsC : Array Slot) (w0 : mW), m_bd D cA b ex sc M p s m args meth c → m_L b ex ls lsC → m_H b ex D cA w H → va_S (m_A b) s.heap H locs → m_le w0 w →
    W p l e (m_rm d (m_n w' - m_n w0) (m_s w' - m_s w0)) s m args below meth c H locs (m_n w - m_n w0) (m_s w - m_s w0) (vx_MQ below (m_Qc b ex D cA r w') (m_XC b ex D cA r w') args s (m_n w' - m_n w0) (m_s w' - m_s w0) (m_A b)) (F0 m pc lsC (st.map (m_cv b ex)))
theorem m_Pc_blind {args : List Value} {w : mW} : FrameBlind (m_Pc D cA b ex sc args w) := by
  intro a U g mk h
  obtain ⟨h1, h2, h3⟩ := h
  exact ⟨h1, h2, m_Kn_to (locs := []) (State.WarmedH.refl U) va_S.rf h3⟩
/-- a callee's contract, out of its run -/
theorem m_callee {f d n : Nat} {Mj : mM} {args : List Value} {w w1 : mW} {r : mR} (ih : m_simP l D cA b ex sc G f) (hg : m_good l D cA b ex sc G Mj) (hkB : m_kB Mj n) (hV : m_V w) (hok : ∀ v ∈ args, m_ok w v) (hc : ∀ v ∈ args, v.category = 1) (hn : args.length ≤ m_Ml Mj)
    (h : m_run G sc f d Mj 0 (m_en args (m_Ml Mj)) [] w = some (r, w1)) : vx_Met l (m_My Mj) (m_ws Mj) (m_rm d (m_n w1 - m_n w) (m_s w1 - m_s w)) (m_Pc D cA b ex sc args w) (m_Qc b ex D cA r w1) (m_XC b ex D cA r w1) (m_n w1 - m_n w) (m_s w1 - m_s w) (m_A b) := by
  obtain ⟨k1, k2, k3, k4, k5, k6⟩ := hkB
  refine vx_ofW (cc := m_Mb Mj) (maxL := m_Ml Mj) (ret := m_Mr Mj) k4 rfl ?_
  intro p e s m args' below meth c s₁ B hml htab hPc
  obtain ⟨rfl, hH, hKn⟩ := hPc
  have hts := atoms_spec (ws := m_ws Mj) B.pre
  have hbd : m_bd D cA b ex sc Mj p s m (args.map (m_cv b ex)).toArray meth c := ⟨B.exec, B.bytes, B.returns, hml, fun w hw => hts w (List.mem_cons_of_mem _ hw), findClass_of_methodNamed B.named, (name_of_methodNamed B.named B.method).1, B.notSynchronized, by rw [k6]; cases hl : c.exceptionTable.toList with | nil => rfl | cons q t => exact (htab q (by rw [hl]; exact List.mem_cons_self)).elim, hKn⟩
  have k := ih d Mj 0 (m_en args (m_Ml Mj)) [] w w1 r hg h ⟨hV, m_en_ok hok _, fun v hv => by cases hv⟩ (m_en_len hn) p e s m (args.map (m_cv b ex)).toArray below meth c s.heap [] _ w hbd (m_L_entry hc hn) hH va_S.rf (m_le.rf w)
  rw [Nat.sub_self, Nat.sub_self] at k
  rw [lg_entry_eq]
  exact k
/-- the same of a method that catches -/
theorem m_calleeW {f d n : Nat} {Mj : mM} {args : List Value} {w w1 : mW} {r : mR} (ih : m_simP l D cA b ex sc G f) (hg : m_good l D cA b ex sc G Mj) (hkB : m_kBW Mj n) (hV : m_V w) (hok : ∀ v ∈ args, m_ok w v) (hc : ∀ v ∈ args, v.category = 1) (hn : args.length ≤ m_Ml Mj)
    (h : m_run G sc f d Mj 0 (m_en args (m_Ml Mj)) [] w = some (r, w1)) : vx_Met l (m_My Mj) (m_wsW Mj) (m_rm d (m_n w1 - m_n w) (m_s w1 - m_s w)) (m_Pc D cA b ex sc args w) (m_Qc b ex D cA r w1) (m_XC b ex D cA r w1) (m_n w1 - m_n w) (m_s w1 - m_s w) (m_A b) := by
  obtain ⟨k1, k2, k3, k4, k5⟩ := hkB
  refine vx_ofWH (cc := m_Mb Mj) (maxL := m_Ml Mj) (ret := m_Mr Mj) (hh := m_Mh Mj) k4 rfl ?_
  intro p e s m args' below meth c s₁ B hml hPc
  obtain ⟨rfl, hH, hKn⟩ := hPc
  have hts := atoms_spec (ws := m_wsW Mj) B.pre
  have hbd : m_bd D cA b ex sc Mj p s m (args.map (m_cv b ex)).toArray meth c := ⟨B.exec, B.bytes, B.returns, hml, fun w hw => hts w (List.mem_cons_of_mem _ hw), findClass_of_methodNamed B.named, (name_of_methodNamed B.named B.method).1, B.notSynchronized, vx_table (x := m_My Mj) B (hts _ List.mem_cons_self), hKn⟩
  have k := ih d Mj 0 (m_en args (m_Ml Mj)) [] w w1 r hg h ⟨hV, m_en_ok hok _, fun v hv => by cases hv⟩ (m_en_len hn) p e s m (args.map (m_cv b ex)).toArray below meth c s.heap [] _ w hbd (m_L_entry hc hn) hH va_S.rf (m_le.rf w)
  rw [Nat.sub_self, Nat.sub_self] at k
  rw [lg_entry_eq]
  exact k
end MSM
