/-! THE SIMULATION -/
section MMN
variable {l : Launch} {b : Nat} {ex : Nat → Nat} {D : va_G} {cA : Nat → Nat} {sc : mS} {G : Nat → Option mM}
theorem m_XC_no {r : mR} {v : Option Value} {w' : mW} (h : r = .inl v) : ∀ E st t, ¬ m_XC b ex D cA r w' E st t := by
  intro E st t hx
  obtain ⟨⟨e, he, -⟩, -⟩ := hx
  rw [h] at he
  cases he
theorem m_cl_one {k : Nat} {st : List Value} {q : mN} (h : m_cl [k] st = some q) : False := by
  unfold m_cl at h
  cases h
theorem m_hd_none {M : mM} {pc e : Nat} {ls : List Value} (h : m_hd M pc ls e = some none) : m_Mh M = [] := by
  unfold m_hd at h
  split at h
  · cases h
  · split at h
    · assumption
    · split at h
      · cases h
      · split at h
        · split at h <;> cases h
        · split at h <;> cases h
        · cases h
theorem m_hd_some {M : mM} {pc e : Nat} {ls : List Value} {q : Nat × List Value} (h : m_hd M pc ls e = some (some q)) : m_Mh M ≠ [] := by
  intro hq
  unfold m_hd at h
  split at h
  · cases h
  · rw [hq] at h
    cases h
theorem m_hd_sp {M : mM} {pc idx len e : Nat} {x : List Nat} {ls : List Value} (h : m_Mc M pc = some (.invokespecial idx, len, x)) : m_hd M pc ls e = none := by
  unfold m_hd
  rw [h]
set_option maxHeartbeats 4000000 in
theorem m_sim (hG : ∀ i M, G i = some M → m_good l D cA b ex sc G M) : ∀ f, m_simP l D cA b ex sc G f := by
  intro f
  induction f with
  | zero => intro d M pc ls st w w' r hg h; cases h
  | succ f ih =>
    intro d M pc ls st w w' r hg h hi hlm p e s m args below meth c H locs lsC w0 hbd hL hH hS hle
    have hls : lsC.size = m_Ml M := (m_L_size hL).trans hlm
    unfold m_run at h
    split at h
    · cases h
    · rename_i pc1 ls1 st1 w1 hs
      obtain ⟨a1, a2, a3⟩ := m_step_q hi hs
      obtain ⟨b1, b2, b3⟩ := m_run_q G sc f _ _ _ _ _ _ _ _ a1 h
      have e1 : m_n w - m_n w0 + (m_n w1 - m_n w) = m_n w1 - m_n w0 := by have := hle.1; have := a2.1; omega
      have e2 : m_s w - m_s w0 + (m_s w1 - m_s w) = m_s w1 - m_s w0 := by have := hle.2.1; have := a2.2.1; omega
      refine m_step_W hbd hg.1 hlm hi hL hH hS hs ?_ ?_ ?_ ?_ (fun lsC1 H1 locs1 q1 q2 q3 => ?_)
      · rw [e1]
        show _ ≤ m_n w' - m_n w0
        have := b2.1
        omega
      · rw [e2]
        show _ ≤ m_s w' - m_s w0
        have := b2.2.1
        omega
      · show 12 ≤ d + 12
        omega
      · show 400 ≤ 64 * d + 400
        omega
      · rw [e1, e2]
        exact ih d M pc1 ls1 st1 w1 w' r hg h a1 (a3.trans hlm) p e s m args below meth c H1 locs1 lsC1 w0 hbd q1 q2 q3 (hle.tr a2)
    · rename_i r1 hs
      cases h
      rcases m_step_fin hs with ⟨ins, len, x, hc, hr⟩ | ⟨idx, len, e0, y, hc, hcat, rfl, rfl⟩
      · exact m_end_W hbd hg.1 hc hr hH hS
      · have hn := hle.1
        have hs2 := hle.2.1
        refine hg.2.2.2.2.1 pc idx len e0 y hc p e _ s m args below meth c H locs _ _ _ _ _ _ _ lsC st w hbd hls hH hS hcat ?_ ?_ ?_ ?_ ?_ ?_ (fun t ht1 ht2 ht3 => ⟨⟨e0, rfl, rfl⟩, m_H_mk hH (by omega) ht2 ht3 (fun z => by omega), ?_⟩) hS.2.2
        · show _ ≤ m_n (m_mk w 31 0 6) - m_n w0
          rw [m_mk_n]; omega
        · show _ ≤ m_s w + 6 - m_s w0
          omega
        · show 12 ≤ d + 12
          omega
        · show 400 ≤ 64 * d + 400
          omega
        · rw [m_mk_n]; omega
        · show _ ≤ m_s w + 6 - m_s w0
          omega
        · refine ⟨by rw [ht2]; have := hS.1; omega, fun q hq1 hq2 => ?_⟩
          rw [ht3 q (Nat.lt_of_lt_of_le hq1 hS.1)]
          exact hS.2.1 q hq1 hq2
    · rename_i mj args0 rest hs
      obtain ⟨a1, a2⟩ := m_step_q hi hs
      obtain ⟨ins, len, x, idx, hc, hcl, hins⟩ := m_step_call hs
      obtain ⟨mi, na, kd, y, rfl, hna, hcat, hall, hq0, hkd⟩ := m_cl_s hcl
      cases hq0
      obtain ⟨hd, hlen, -⟩ := hg.1 _ _ _ _ hc
      have hcc : ∀ v ∈ (st.take na).reverse, v.category = 1 := fun v hv => by
        have := List.all_eq_true.mp hall v (List.mem_reverse.mp hv)
        simpa using this
      split at h
      · rename_i d1 Mj hGj
        have hgj := hG _ _ hGj
        have hinv0 : m_inv w (m_en ((st.take na).reverse) (m_Ml Mj)) [] := ⟨hi.1, m_en_ok a1 _, fun v hv => by cases hv⟩
        split at h
        · cases h
        · -- it returns
          rename_i v w1 hr
          obtain ⟨b1, b2, b3⟩ := m_run_q G sc f _ _ _ _ _ _ _ _ hinv0 hr
          have hinv1 : m_inv w1 ls (v.toList ++ st.drop na) := ⟨b1, fun u hu => m_ok_le b2 (hi.2.1 u hu), fun u hu => by
            rcases List.mem_append.mp hu with q | q
            · exact m_ok_ret b3 u q
            · exact m_ok_le b2 (a2 u q)⟩
          obtain ⟨c1, c2, c3⟩ := m_run_q G sc f _ _ _ _ _ _ _ _ hinv1 h
          have e1 : m_n w - m_n w0 + (m_n w1 - m_n w) = m_n w1 - m_n w0 := by have := hle.1; have := b2.1; omega
          have e2 : m_s w - m_s w0 + (m_s w1 - m_s w) = m_s w1 - m_s w0 := by have := hle.2.1; have := b2.2.1; omega
          have hf : m_n w - m_n w0 + (m_n w1 - m_n w) ≤ m_n w' - m_n w0 ∧ m_s w - m_s w0 + (m_s w1 - m_s w) ≤ m_s w' - m_s w0 := by
            have := c2.1; have := c2.2.1
            omega
          have go : ∀ (H1 : Heap) (locs1 : List Loc), m_H b ex D cA w1 H1 → va_S (m_A b) s.heap H1 locs1 → W p l e (m_rm (d1 + 1) (m_n w' - m_n w0) (m_s w' - m_s w0)) s m args below meth c H1 locs1 (m_n w - m_n w0 + (m_n w1 - m_n w)) (m_s w - m_s w0 + (m_s w1 - m_s w)) (vx_MQ below (m_Qc b ex D cA r w') (m_XC b ex D cA r w') args s (m_n w' - m_n w0) (m_s w' - m_s w0) (m_A b)) (F0 m (pc + 3) lsC ((v.toList ++ st.drop na).map (m_cv b ex))) := by
            intro H1 locs1 q1 q2
            rw [e1, e2]
            exact ih (d1 + 1) M (pc + 3) ls (v.toList ++ st.drop na) w1 w' r hg h hinv1 hlm p e s m args below meth c H1 locs1 lsC w0 hbd hL q1 q2 (hle.tr b2)
          have hlen3 : len = 3 := by rcases hins with rfl | rfl | rfl <;> exact hlen rfl
          subst hlen3
          rcases hins with rfl | rfl | rfl
          · rcases hg.2.1 _ _ _ _ hc with ⟨k, hk⟩ | ⟨Mk, n, q, g1, g2, g3, g4, g5, g6, g7, g8, g9, g10⟩
            · cases hk
            · simp only [List.getD_cons_zero, List.getD_cons_succ] at g1 g2 g8 g9
              cases hGj.symm.trans g1
              rcases hkd with hk0 | ⟨a, r0, ha, hk⟩
              · omega
              · have hM := m_met_of (m_callee ih hgj g4 hi.1 a1 hcc (by rw [List.length_reverse, List.length_take]; omega) hr) (m_XC_no rfl)
                rw [ha] at hM
                have hoa : m_okr w a := a1 (.ref a) (by rw [ha]; exact List.mem_cons_self)
                exact m_ret_W (m_runV hbd hls hH hS hoa ha hna g2 hk (by omega) (by rw [g9]) g10 hcat g4 g5 g6 g7 hd hf hM) hS go
          · rcases hg.2.2.1 _ _ _ _ hc with ⟨k, hk⟩ | ⟨Mk, n, g1, g2, g3, g4, g5, g6⟩ | ⟨Mk, n, g1, g2, g3, g4, g5, g6⟩
            · cases hk
            · simp only [List.getD_cons_zero, List.getD_cons_succ] at g1 g2
              cases hGj.symm.trans g1
              have hM := m_met_of (m_callee ih hgj g4 hi.1 a1 hcc (by rw [List.length_reverse, List.length_take]; omega) hr) (m_XC_no rfl)
              exact m_ret_W (m_runS hbd hls hH hS hna g2 hcat g4 g5 g6 hd hf hM) hS go
            · simp only [List.getD_cons_zero, List.getD_cons_succ] at g1 g2
              cases hGj.symm.trans g1
              have hM := m_met_of (m_calleeW ih hgj g4 hi.1 a1 hcc (by rw [List.length_reverse, List.length_take]; omega) hr) (m_XC_no rfl)
              exact m_ret_W (m_runW hbd hls hH hS hna g2 hcat g4 g5 g6 hd hf hM) hS go
          · rcases hg.2.2.2.1 _ _ _ _ hc with hk | ⟨Mk, n, g1, g2, g3, g4, g0, g5, g6, g7, g8⟩
            · cases hk
            · simp only [List.getD_cons_zero, List.getD_cons_succ] at g1 g2 g0
              cases hGj.symm.trans g1
              rcases hkd with hk0 | ⟨a, r0, ha, hk⟩
              · omega
              · have hM := m_met_of (m_callee ih hgj g4 hi.1 a1 hcc (by rw [List.length_reverse, List.length_take]; omega) hr) (m_XC_no rfl)
                rw [ha] at hM
                exact m_ret_W (m_runI hbd hls hH hS (fun z => by subst z; simp at hk; omega) ha hna g2 hcat g4 g5 g6 g8 g7 hd hf hM) hS go
        · -- it throws
          rename_i e0 w1 hr
          obtain ⟨b1, b2, b3⟩ := m_run_q G sc f _ _ _ _ _ _ _ _ hinv0 hr
          have e1 : m_n w - m_n w0 + (m_n w1 - m_n w) = m_n w1 - m_n w0 := by have := hle.1; have := b2.1; omega
          have e2 : m_s w - m_s w0 + (m_s w1 - m_s w) = m_s w1 - m_s w0 := by have := hle.2.1; have := b2.2.1; omega
          have key : m_n w1 ≤ m_n w' ∧ m_s w1 ≤ m_s w' ∧ ∀ (H1 : Heap) (locs1 : List Loc) (q : Addr) (ce : Cell), m_H b ex D cA w1 H1 → va_S (m_A b) s.heap H1 locs1 → H1[q]? = some ce → ce.vm = .none → s.vm.findClass (m_exn e0) = some ce.cls →
              vx_W p l e (m_rm (d1 + 1) (m_n w' - m_n w0) (m_s w' - m_s w0)) s m args below meth c H1 locs1 (m_n w - m_n w0 + (m_n w1 - m_n w)) (m_s w - m_s w0 + (m_s w1 - m_s w)) (vx_MQ below (m_Qc b ex D cA r w') (m_XC b ex D cA r w') args s (m_n w' - m_n w0) (m_s w' - m_s w0) (m_A b)) (F0 m pc lsC ((st.drop na).map (m_cv b ex))) q := by
            split at h
            · cases h
            · rename_i hh
              cases h
              refine ⟨Nat.le_refl _, Nat.le_refl _, fun H1 locs1 q ce q1 q2 q3 q4 q5 => ?_⟩
              obtain ⟨-, -, -, -, -, -, -, hlocks, htab, -⟩ := hbd
              exact vx_out (fun x hx => by rw [htab, m_hd_none hh] at hx; cases hx) hlocks q3 q4 q5 (fun t ht _ => ⟨⟨e0, rfl, rfl⟩, by rw [ht]; exact q1, q2.F ht⟩) q2.2.2 (by omega) (by omega)
            · rename_i pc1 ls1 hh
              obtain ⟨y1, y2⟩ := m_hd_ok hi.2.1 hh
              have hinv1 : m_inv w1 ls1 [] := ⟨b1, fun u hu => m_ok_le b2 (y1 u hu), fun u hu => by cases hu⟩
              obtain ⟨c1, c2, c3⟩ := m_run_q G sc f _ _ _ _ _ _ _ _ hinv1 h
              refine ⟨c2.1, c2.2.1, fun H1 locs1 q ce q1 q2 q3 q4 q5 => ?_⟩
              refine hg.2.2.2.2.2 (m_hd_some hh) pc pc1 ls ls1 e0 hh p e _ s m args below meth c H1 locs1 _ _ _ lsC _ q ce hbd hL q3 q4 q5 (fun lsC' hl' => ?_)
              rw [e1, e2]
              exact ih (d1 + 1) M pc1 ls1 [] w1 w' r hg h hinv1 (y2.trans hlm) p e s m args below meth c H1 locs1 lsC' w0 hbd hl' q1 q2 (hle.tr b2)
          obtain ⟨z1, z2, key⟩ := key
          have hf : m_n w - m_n w0 + (m_n w1 - m_n w) ≤ m_n w' - m_n w0 ∧ m_s w - m_s w0 + (m_s w1 - m_s w) ≤ m_s w' - m_s w0 := by omega
          have hlen3 : len = 3 := by rcases hins with rfl | rfl | rfl <;> exact hlen rfl
          subst hlen3
          rcases hins with rfl | rfl | rfl
          · rcases hg.2.1 _ _ _ _ hc with ⟨k, hk⟩ | ⟨Mk, n, q, g1, g2, g3, g4, g5, g6, g7, g8, g9, g10⟩
            · cases hk
            · simp only [List.getD_cons_zero, List.getD_cons_succ] at g1 g2 g8 g9
              cases hGj.symm.trans g1
              rcases hkd with hk0 | ⟨a, r0, ha, hk⟩
              · omega
              · have hM := m_callee ih hgj g4 hi.1 a1 hcc (by rw [List.length_reverse, List.length_take]; omega) hr
                rw [ha] at hM
                have hoa : m_okr w a := a1 (.ref a) (by rw [ha]; exact List.mem_cons_self)
                exact m_thr_W (m_runVx hbd hls hH hS hoa ha hna g2 hk (by omega) (by rw [g9]) g10 hcat g4 g5 g6 g7 hd hf hM) hS key
          · rcases hg.2.2.1 _ _ _ _ hc with ⟨k, hk⟩ | ⟨Mk, n, g1, g2, g3, g4, g5, g6⟩ | ⟨Mk, n, g1, g2, g3, g4, g5, g6⟩
            · cases hk
            · simp only [List.getD_cons_zero, List.getD_cons_succ] at g1 g2
              cases hGj.symm.trans g1
              have hM := m_callee ih hgj g4 hi.1 a1 hcc (by rw [List.length_reverse, List.length_take]; omega) hr
              exact m_thr_W (m_runSx hbd hls hH hS hna g2 hcat g4 g5 g6 hd hf hM) hS key
            · simp only [List.getD_cons_zero, List.getD_cons_succ] at g1 g2
              cases hGj.symm.trans g1
              have hM := m_calleeW ih hgj g4 hi.1 a1 hcc (by rw [List.length_reverse, List.length_take]; omega) hr
              exact m_thr_W (m_runWx hbd hls hH hS hna g2 hcat g4 g5 g6 hd hf hM) hS key
          · rw [m_hd_sp hc] at h
            cases h
      · cases h
end MMN
