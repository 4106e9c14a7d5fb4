/-! the simulation: every run of the small machine is a run of the machine -/
theorem m_step_fin {sc : mS} {M : mM} {pc : Nat} {ls st : List Value} {w w' : mW} {r : mR} (h : m_step sc M pc ls st w = some (.inr (.inr (r, w')))) :
    (∃ (ins : Instr) (len : Nat) (x : List Nat), m_Mc M pc = some (ins, len, x) ∧ m_rt (m_Mr M) ins st w = some (.inr (.inr (r, w')))) ∨ (∃ (idx len e : Nat) (y : List Nat), m_Mc M pc = some (.new idx, len, 1 :: e :: y) ∧ (st.map (fun v => v.category)).sum ≤ 8 ∧ r = .inr e ∧ w' = m_mk w 31 0 6) := by
  have cl : ∀ {x : List Nat}, m_cl x st = some (.inr (.inr (r, w'))) → False := by
    intro x h
    obtain ⟨mi, na, kd, y, -, -, -, -, q, -⟩ := m_cl_s h
    cases q
  unfold m_step at h
  split at h
  · cases h
  · rename_i ins len x hc
    split at h <;> first | exact (m_nx_n h).elim | exact (m_nw2_n h).elim | exact (cl h).elim | exact (m_simple_n h).elim | exact Or.inl ⟨_, _, _, hc, h⟩ | skip
    · rcases m_nt_s h with ⟨ci, y, t, w1, -, hw, q⟩ | ⟨e, y, hx, hy, q⟩
      · cases q
      · cases q
        exact Or.inr ⟨_, _, _, _, by rw [hc, hx], hy, rfl, rfl⟩
    · split at h
      · exact (m_nw2_n h).elim
      · exact (cl h).elim
    · split at h
      · exact (m_nw2_n h).elim
      · exact (cl h).elim
    · split at h
      · obtain ⟨a, r, rfl, -, -, q⟩ := m_obj_s h
        cases q
      · exact (cl h).elim
theorem m_step_call {sc : mS} {M : mM} {pc mj : Nat} {ls st args rest : List Value} {w : mW} (h : m_step sc M pc ls st w = some (.inr (.inl (mj, args, rest)))) :
    ∃ (ins : Instr) (len : Nat) (x : List Nat) (idx : Nat), m_Mc M pc = some (ins, len, x) ∧ m_cl x st = some (.inr (.inl (mj, args, rest))) ∧ (ins = .invokevirtual idx ∨ ins = .invokestatic idx ∨ ins = .invokespecial idx) := by
  have rt : ∀ {ins : Instr}, m_rt (m_Mr M) ins st w = some (.inr (.inl (mj, args, rest))) → False := by
    intro ins h
    rcases m_rt_s h with ⟨-, -, -, q⟩ | ⟨t, x, -, -, -, -, q⟩ | ⟨x, -, -, -, q⟩ <;> cases q
  unfold m_step at h
  split at h
  · cases h
  · rename_i ins len x hc
    split at h <;> first | exact (m_nx_n h).elim | exact (m_nw2_n h).elim | exact (m_simple_n h).elim | exact (rt h).elim | skip
    · rcases m_nt_s h with ⟨ci, y, t, w1, -, hw, q⟩ | ⟨e, y, hx, hy, q⟩ <;> cases q
    · split at h
      · exact (m_nw2_n h).elim
      · exact ⟨_, _, _, _, hc, h, Or.inl rfl⟩
    · split at h
      · exact (m_nw2_n h).elim
      · exact ⟨_, _, _, _, hc, h, Or.inr (Or.inl rfl)⟩
    · split at h
      · obtain ⟨a, r, rfl, -, -, q⟩ := m_obj_s h
        cases q
      · exact ⟨_, _, _, _, hc, h, Or.inr (Or.inr rfl)⟩
section MWH
variable {p : Program} {l : Launch} {e : Env} {R : Room} {s : State} {m : MethodId} {args : Array Value} {below : List Frame} {meth : Method} {c : Code} {H : Heap} {locs : List Loc} {Q : State → Prop} {pc : Nat} {lsC : Array Slot} {cells slots mc ms : Nat}
variable {b : Nat} {ex : Nat → Nat} {D : va_G} {cA : Nat → Nat} {sc : mS} {M : mM} {w w1 : mW} {G : Nat → Option mM} {a : Array Value} {st0 rest : List Value}
theorem m_ret_W {v : Option Value} (hrun : va_Run p l e R s m args below meth c H locs cells slots mc ms (F0 m pc lsC st0) (rest.map (m_cv b ex)) (m_Qc b ex D cA (.inl v) w1 a) (m_A b)) (hS : va_S (m_A b) s.heap H locs)
    (k : ∀ (H1 : Heap) (locs1 : List Loc), m_H b ex D cA w1 H1 → va_S (m_A b) s.heap H1 locs1 → W p l e R s m args below meth c H1 locs1 (cells + mc) (slots + ms) Q (F0 m (pc + 3) lsC ((v.toList ++ rest).map (m_cv b ex)))) : W p l e R s m args below meth c H locs cells slots Q (F0 m pc lsC st0) := by
  intro T hT X
  obtain ⟨v1, st₀, t, T', L, e0, X', hL, e1, e2, hQ, st⟩ := hrun T hT X
  obtain ⟨⟨v0, hv, hv1⟩, hH1, hF⟩ := hQ
  cases hv
  cases hv1
  obtain ⟨-, -, k3⟩ := vx_keep e0 e1 hS (fun q _ h => h) (fun q h => h) hL hF
  obtain ⟨tt, a1, b1⟩ := k T'.heap (locs ++ L) (by rw [e1]; exact hH1) k3 T' rfl X'
  have e5 : (v.map (m_cv b ex)).toList ++ rest.map (m_cv b ex) = (v.toList ++ rest).map (m_cv b ex) := by cases v <;> simp
  refine ⟨tt, st tt ?_, b1⟩
  show Steps p.tables e below (T'.setTop { method := m, pc := pc + 3, locals := lsC, stack := (v.map (m_cv b ex)).toList ++ rest.map (m_cv b ex), locked := none }) tt
  rw [e5]
  exact a1
theorem m_thr_W {e0 : Nat} (hrun : vx_Run p l e R s m args below meth c H locs cells slots mc ms (F0 m pc lsC st0) rest (m_Qc b ex D cA (.inr e0) w1 a) (m_XC b ex D cA (.inr e0) w1) (m_A b)) (hS : va_S (m_A b) s.heap H locs)
    (k : ∀ (H1 : Heap) (locs1 : List Loc) (q : Addr) (ce : Cell), m_H b ex D cA w1 H1 → va_S (m_A b) s.heap H1 locs1 → H1[q]? = some ce → ce.vm = .none → s.vm.findClass (m_exn e0) = some ce.cls → vx_W p l e R s m args below meth c H1 locs1 (cells + mc) (slots + ms) Q (F0 m pc lsC rest) q) : W p l e R s m args below meth c H locs cells slots Q (F0 m pc lsC st0) := by
  intro T hT X
  rcases hrun T hT X with ⟨v1, st₀, t, T', L, h0, X', hL, h1, h2, hQ, st⟩ | ⟨q, st₀, t, T', L, E, ce, h0, X', hL, h1, h2, hX, hce, hcv, hcl, st⟩
  · obtain ⟨⟨v0, hv, -⟩, -⟩ := hQ
    cases hv
  · obtain ⟨⟨e9, he, rfl⟩, hH1, hF⟩ := hX
    cases he
    obtain ⟨-, -, k3⟩ := vx_keep h0 h1 hS (fun q _ h => h) (fun q h => h) hL hF
    obtain ⟨tt, a1, b1⟩ := k T'.heap (locs ++ L) q ce (by rw [h1]; exact hH1) k3 (by rw [h1]; exact hce) hcv hcl T' rfl X'
    exact ⟨tt, st.trans a1, b1⟩
theorem m_cat_map (st : List Value) : ((st.map (m_cv b ex)).map (fun v => v.category)).sum = (st.map (fun v => v.category)).sum := by
  rw [List.map_map]
  congr 1
  exact List.map_congr_left (fun v _ => m_cv_cat b ex v)
theorem m_goodIn {Mj : mM} (h : Cond.code (m_My Mj) (m_Mb Mj) (m_Ml Mj) (m_Mr Mj) ∈ m_tbl) : GoodIn m_tbl (m_ws Mj) := by
  intro w hw
  have hm : w ∈ m_tbl := by
    rcases List.mem_cons.mp hw with q | q
    · rw [q]; exact h
    · exact q
  exact ⟨hm, good_of_word (m_tbl_good w hm)⟩
theorem m_end_W {ins : Instr} {len : Nat} {x : List Nat} {st : List Value} {r : mR} {w' w0 : mW} (hbd : m_bd D cA b ex sc M p s m args meth c) (hrow : m_row l D cA b ex sc M) (hc : m_Mc M pc = some (ins, len, x)) (h : m_rt (m_Mr M) ins st w = some (.inr (.inr (r, w')))) (hH : m_H b ex D cA w H) (hS : va_S (m_A b) s.heap H locs) :
    W p l e R s m args below meth c H locs (m_n w - m_n w0) (m_s w - m_s w0) (vx_MQ below (m_Qc b ex D cA r w') (m_XC b ex D cA r w') args s (m_n w' - m_n w0) (m_s w' - m_s w0) (m_A b)) (F0 m pc lsC (st.map (m_cv b ex))) := by
  obtain ⟨hx, hb, hr, hml, hts, hown, hnm, hlocks, htab, hKn⟩ := hbd
  obtain ⟨hd, hlen, -⟩ := hrow _ _ _ _ hc
  rcases m_rt_s h with ⟨rfl, ht, rfl, q⟩ | ⟨t, z, rfl, ht, hz, rfl, q⟩ | ⟨z, rfl, ht, rfl, q⟩ <;> cases q
  · have hl0 : len = 1 := hlen rfl
    subst hl0
    exact vx_ret (W.vret hx hb (hr.trans ht) (fun t ht _ => ⟨⟨none, rfl, rfl⟩, by rw [ht]; exact hH, hS.F ht⟩) hS.2.2 hd hlocks)
  · have hl0 : len = 1 := hlen rfl
    subst hl0
    exact vx_ret (W.zret hx hb (hr.trans ht) hz (fun t ht _ => ⟨⟨some (.int z), rfl, rfl⟩, by rw [ht]; exact hH, hS.F ht⟩) hS.2.2 hd hlocks)
  · have hl0 : len = 1 := hlen rfl
    subst hl0
    exact vx_ret (W.lret hx hb (hr.trans ht) (fun t ht _ => ⟨⟨some (.long z), rfl, rfl⟩, by rw [ht]; exact hH, hS.F ht⟩) hS.2.2 hd hlocks)
end MWH
