/-! a run keeps what is known of references, and cells are never lost -/
theorem m_nx_s {pc pc' : Nat} {ls ls' st' : List Value} {w w' : mW} {t : Option (List Value)} (h : m_nx pc ls w t = some (.inl (pc', ls', st', w'))) : t = some st' ∧ pc' = pc ∧ ls' = ls ∧ w' = w := by
  cases t with
  | none => cases h
  | some u => cases h; exact ⟨rfl, rfl, rfl, rfl⟩
theorem m_nw2_s {pc pc' : Nat} {ls ls' st' : List Value} {w' : mW} {t : Option (List Value × mW)} (h : m_nw2 pc ls t = some (.inl (pc', ls', st', w'))) : t = some (st', w') ∧ pc' = pc ∧ ls' = ls := by
  cases t with
  | none => cases h
  | some u => cases h; exact ⟨rfl, rfl, rfl⟩
theorem m_nx_n {pc : Nat} {ls : List Value} {w : mW} {t : Option (List Value)} {q : (Nat × List Value × List Value) ⊕ (mR × mW)} (h : m_nx pc ls w t = some (.inr q)) : False := by
  cases t <;> cases h
theorem m_nw2_n {pc : Nat} {ls : List Value} {t : Option (List Value × mW)} {q : (Nat × List Value × List Value) ⊕ (mR × mW)} (h : m_nw2 pc ls t = some (.inr q)) : False := by
  cases t <;> cases h
theorem m_rd_ok {w : mW} (hV : m_V w) (a k tc : Nat) : m_ok w (m_rd w a k tc) := by
  unfold m_rd
  split
  · trivial
  · trivial
  · exact hV a k
  · trivial
  · trivial
theorem m_gf_ok {w : mW} {x : List Nat} {st t : List Value} (hV : m_V w) (hs : ∀ v ∈ st, m_ok w v) (h : m_gf x st w = some t) : ∀ v ∈ t, m_ok w v := by
  obtain ⟨ci, k, tc, y, a, r, -, rfl, -, rfl⟩ := m_gf_s h
  exact List.forall_mem_cons.mpr ⟨m_rd_ok hV _ _ _, fun v hv => hs v (List.mem_cons_of_mem _ hv)⟩
theorem m_wr_ok {w w' : mW} {a k tc : Nat} {v : Value} (hV : m_V w) (hv : m_ok w v) (h : m_wr w a k tc v = some w') : m_V w' ∧ m_le w w' := by
  unfold m_wr at h
  split at h
  · cases h; exact ⟨hV, m_le.rf w⟩
  · split at h
    · cases h; exact ⟨hV, m_le.rf w⟩
    · cases h
  · rename_i q
    cases h
    refine ⟨fun i j => ?_, m_le.rf w⟩
    show m_okr w (m_u2 (m_P w) a k q i j)
    unfold m_u2
    split
    · split
      · exact hv
      · exact hV i j
    · exact hV i j
  · cases h; exact ⟨hV, m_le.rf w⟩
  · cases h
theorem m_pf_ok {w w' : mW} {x : List Nat} {st t : List Value} (hV : m_V w) (hs : ∀ v ∈ st, m_ok w v) (h : m_pf x st w = some (t, w')) : m_V w' ∧ m_le w w' ∧ ∀ v ∈ t, m_ok w' v := by
  obtain ⟨ci, k, tc, y, v, a, -, rfl, -, hw⟩ := m_pf_s h
  obtain ⟨h1, h2⟩ := m_wr_ok hV (hs _ List.mem_cons_self) hw
  exact ⟨h1, h2, fun u hu => m_ok_le h2 (hs u (List.mem_cons_of_mem _ (List.mem_cons_of_mem _ hu)))⟩
theorem m_mk_le (w : mW) (kd ln sl : Nat) : m_le w (m_mk w kd ln sl) := ⟨Nat.le_succ _, Nat.le_add_right _ _, fun k hk => m_mk_K w kd ln sl k hk⟩
theorem m_mk_V {w : mW} (hV : m_V w) (kd ln sl : Nat) : m_V (m_mk w kd ln sl) := by
  intro i j
  by_cases h : i = 32 * (m_n w + 1) + kd
  · rw [h, m_mk_Pn]; exact Or.inl rfl
  · rw [m_mk_P _ _ _ _ h]; exact m_okr_le (m_mk_le w kd ln sl) (hV i j)
theorem m_mk_ok (w : mW) {kd : Nat} (ln sl : Nat) (h : kd < 32) : m_okr (m_mk w kd ln sl) (32 * (m_n w + 1) + kd) := by
  have e1 : (32 * (m_n w + 1) + kd) / 32 - 1 = m_n w := by omega
  have e2 : (32 * (m_n w + 1) + kd) % 32 = kd := by omega
  refine Or.inr (Or.inr ⟨by omega, by rw [e1, m_mk_n]; omega, by rw [e1, e2, m_mk_Kn]⟩)
theorem m_nw_ok {w w' : mW} {x : List Nat} {st t : List Value} (hV : m_V w) (hs : ∀ v ∈ st, m_ok w v) (h : m_nw x st w = some (t, w')) : m_V w' ∧ m_le w w' ∧ ∀ v ∈ t, m_ok w' v := by
  unfold m_nw at h
  split at h
  · split at h
    · cases h
      exact ⟨m_mk_V hV _ _ _, m_mk_le _ _ _ _, List.forall_mem_cons.mpr ⟨m_mk_ok w _ _ (by omega), fun v hv => m_ok_le (m_mk_le _ _ _ _) (hs v hv)⟩⟩
    · cases h
  · cases h
theorem m_na_ok {w w' : mW} {ty : ArrayType} {st t : List Value} (hV : m_V w) (hs : ∀ v ∈ st, m_ok w v) (h : m_na ty st w = some (t, w')) : m_V w' ∧ m_le w w' ∧ ∀ v ∈ t, m_ok w' v := by
  unfold m_na at h
  split at h
  · split at h
    · cases h
    · cases h
      exact ⟨m_mk_V hV _ _ _, m_mk_le _ _ _ _, List.forall_mem_cons.mpr ⟨m_mk_ok w _ _ (by cases ty <;> decide), fun v hv => m_ok_le (m_mk_le _ _ _ _) (hs v (List.mem_cons_of_mem _ hv))⟩⟩
  · cases h
theorem m_ai_ok {w : mW} {sc : mS} {a : Nat} {i : Int32} {x : Value} (h : m_ai sc w a i = some x) : m_ok w x := by
  unfold m_ai at h
  split at h
  · split at h
    · cases h
    · cases h; trivial
  · split at h
    · split at h
      · cases h
      · cases h; trivial
    · cases h
theorem m_ab_ok {w : mW} {a : Nat} {i : Int32} {x : Value} (h : m_ab w a i = some x) : m_ok w x := by
  unfold m_ab at h
  split at h
  · split at h
    · cases h
    · cases h; trivial
  · cases h
theorem m_aj_ok {w : mW} {a : Nat} {i : Int32} {x : Value} (h : m_aj w a i = some x) : m_ok w x := by
  unfold m_aj at h
  split at h
  · split at h
    · cases h
    · cases h; trivial
  · cases h
theorem m_an_ok {w : mW} {sc : mS} {a : Nat} {x : Value} (h : m_an sc w a = some x) : m_ok w x := by
  unfold m_an at h
  split at h
  · cases h; trivial
  · split at h
    · cases h; trivial
    · cases h
theorem m_al_ok {w : mW} {sc : mS} {ins : Instr} {st t : List Value} (hs : ∀ v ∈ st, m_ok w v) (h : m_al ins sc st w = some t) : ∀ v ∈ t, m_ok w v := by
  unfold m_al at h
  split at h
  · split at h
    · obtain ⟨x, h1, rfl⟩ := m_pu_s h
      exact List.forall_mem_cons.mpr ⟨m_ai_ok h1, fun v hv => hs v (by simp [hv])⟩
    · cases h
  · split at h
    · obtain ⟨x, h1, rfl⟩ := m_pu_s h
      exact List.forall_mem_cons.mpr ⟨m_ab_ok h1, fun v hv => hs v (by simp [hv])⟩
    · cases h
  · split at h
    · obtain ⟨x, h1, rfl⟩ := m_pu_s h
      exact List.forall_mem_cons.mpr ⟨m_aj_ok h1, fun v hv => hs v (by simp [hv])⟩
    · cases h
  · split at h
    · obtain ⟨x, h1, rfl⟩ := m_pu_s h
      exact List.forall_mem_cons.mpr ⟨m_an_ok h1, fun v hv => hs v (by simp [hv])⟩
    · cases h
  · cases h
theorem m_xi_ok {w w' : mW} {a : Nat} {i x : Int32} (hV : m_V w) (h : m_xi w a i x = some w') : m_V w' ∧ m_le w w' := by
  unfold m_xi at h
  split at h
  · split at h
    · cases h
    · cases h; exact ⟨hV, m_le.rf w⟩
  · cases h
theorem m_xb_ok {w w' : mW} {a : Nat} {i x : Int32} (hV : m_V w) (h : m_xb w a i x = some w') : m_V w' ∧ m_le w w' := by
  unfold m_xb at h
  split at h
  · split at h
    · cases h
    · cases h; exact ⟨hV, m_le.rf w⟩
  · split at h
    · split at h
      · cases h
      · cases h; exact ⟨hV, m_le.rf w⟩
    · cases h
theorem m_xj_ok {w w' : mW} {a : Nat} {i : Int32} {x : Int64} (hV : m_V w) (h : m_xj w a i x = some w') : m_V w' ∧ m_le w w' := by
  unfold m_xj at h
  split at h
  · split at h
    · cases h
    · cases h; exact ⟨hV, m_le.rf w⟩
  · cases h
theorem m_as_ok {w w' : mW} {ins : Instr} {st t : List Value} (hV : m_V w) (hs : ∀ v ∈ st, m_ok w v) (h : m_as ins st w = some (t, w')) : m_V w' ∧ m_le w w' ∧ ∀ v ∈ t, m_ok w' v := by
  unfold m_as at h
  split at h
  · split at h
    · obtain ⟨h1, rfl⟩ := m_pw_s h
      obtain ⟨q1, q2⟩ := m_xi_ok hV h1
      exact ⟨q1, q2, fun v hv => m_ok_le q2 (hs v (by simp [hv]))⟩
    · cases h
  · split at h
    · obtain ⟨h1, rfl⟩ := m_pw_s h
      obtain ⟨q1, q2⟩ := m_xb_ok hV h1
      exact ⟨q1, q2, fun v hv => m_ok_le q2 (hs v (by simp [hv]))⟩
    · cases h
  · split at h
    · obtain ⟨h1, rfl⟩ := m_pw_s h
      obtain ⟨q1, q2⟩ := m_xj_ok hV h1
      exact ⟨q1, q2, fun v hv => m_ok_le q2 (hs v (by simp [hv]))⟩
    · cases h
  · cases h
theorem m_ldk_ok {w : mW} {x : List Nat} {st t : List Value} (hs : ∀ v ∈ st, m_ok w v) (h : m_ldk x st = some t) : ∀ v ∈ t, m_ok w v := by
  unfold m_ldk at h
  split at h
  · cases h; exact List.forall_mem_cons.mpr ⟨trivial, hs⟩
  · split at h
    · rename_i hq
      cases h; exact List.forall_mem_cons.mpr ⟨Or.inr (Or.inl (Or.inr hq)), hs⟩
    · cases h
  · cases h; exact List.forall_mem_cons.mpr ⟨trivial, hs⟩
  · cases h
theorem m_obj_s {x : List Nat} {pc : Nat} {ls st : List Value} {w : mW} {q : mN} (h : m_obj x pc ls st w = some q) : ∃ (a : Nat) (r : List Value), st = .ref a :: r ∧ ¬ a = 0 ∧ (r.map (fun v => v.category)).sum ≤ 8 ∧ q = .inl (pc + 3, ls, r, w) := by
  unfold m_obj at h
  split at h
  · split at h
    · cases h
    · rename_i hq
      cases h
      exact ⟨_, _, rfl, fun z => hq (Or.inl z), Nat.le_of_not_lt fun z => hq (Or.inr z), rfl⟩
  · cases h
theorem m_cl_s {x : List Nat} {st : List Value} {q : mN} (h : m_cl x st = some q) : ∃ (mi na kd : Nat) (y : List Nat), x = mi :: na :: kd :: y ∧ na ≤ st.length ∧ ((st.drop na).map (fun v => v.category)).sum ≤ 8 ∧ (st.take na).all (fun v => v.category == 1) = true ∧ q = .inr (.inl (mi, (st.take na).reverse, st.drop na)) ∧ (kd = 0 ∨ ∃ (a : Nat) (r : List Value), (st.take na).reverse = .ref a :: r ∧ a % 32 = kd) := by
  unfold m_cl at h
  split at h
  · split at h
    · rename_i hc
      split at h
      · rename_i hk
        cases h
        exact ⟨_, _, _, _, rfl, hc.1, hc.2.1, hc.2.2, rfl, Or.inl hk⟩
      · split at h
        · rename_i a r hr
          split at h
          · rename_i hk
            cases h
            exact ⟨_, _, _, _, rfl, hc.1, hc.2.1, hc.2.2, rfl, Or.inr ⟨a, r, hr, hk⟩⟩
          · cases h
        · cases h
    · cases h
  · cases h
theorem m_rt_s {ty : Option FieldType} {ins : Instr} {st : List Value} {w : mW} {q : mN} (h : m_rt ty ins st w = some q) : (ins = .return_ ∧ ty = none ∧ st = [] ∧ q = .inr (.inr (.inl none, w))) ∨ (∃ (t : FieldType) (x : Int32), ins = .ireturn ∧ ty = some t ∧ narrow t (.int x) = .int x ∧ st = [.int x] ∧ q = .inr (.inr (.inl (some (.int x)), w))) ∨ (∃ x : Int64, ins = .lreturn ∧ ty = some .long ∧ st = [.long x] ∧ q = .inr (.inr (.inl (some (.long x)), w))) := by
  unfold m_rt at h
  split at h
  · cases h; exact Or.inl ⟨rfl, rfl, rfl, rfl⟩
  · cases h; exact Or.inr (Or.inl ⟨_, _, rfl, rfl, rfl, rfl, rfl⟩)
  · split at h
    · rename_i hq
      cases h
      exact Or.inr (Or.inl ⟨_, _, rfl, rfl, by rcases hq with rfl | rfl <;> rfl, rfl, rfl⟩)
    · cases h
  · cases h; exact Or.inr (Or.inr ⟨_, rfl, rfl, rfl, rfl⟩)
  · cases h
theorem m_nt_s {x : List Nat} {pc : Nat} {ls st : List Value} {w : mW} {q : mN} (h : m_nt x pc ls st w = some q) : (∃ (ci : Nat) (y : List Nat) (t : List Value) (w' : mW), x = 0 :: ci :: y ∧ m_nw [ci] st w = some (t, w') ∧ q = .inl (pc + 3, ls, t, w')) ∨ (∃ (e : Nat) (y : List Nat), x = 1 :: e :: y ∧ (st.map (fun v => v.category)).sum ≤ 8 ∧ q = .inr (.inr (.inr e, m_mk w 31 0 6))) := by
  unfold m_nt at h
  split at h
  · rename_i ci y
    cases hw : m_nw [ci] st w with
    | none => rw [hw] at h; cases h
    | some u =>
      rw [hw] at h
      cases h
      exact Or.inl ⟨_, _, _, _, rfl, hw, rfl⟩
  · split at h
    · rename_i hq
      cases h
      exact Or.inr ⟨_, _, rfl, hq, rfl⟩
    · cases h
  · cases h
theorem m_simple_ok {w w' : mW} {ins : Instr} {pc pc' : Nat} {ls ls' st t : List Value} (hi : m_inv w ls st) (h : m_simple ins pc ls st w = some (.inl (pc', ls', t, w'))) : m_inv w' ls' t ∧ m_le w w' ∧ ls'.length = ls.length := by
  unfold m_simple at h
  split at h
  · rename_i u hu
    cases h
    exact ⟨⟨hi.1, hi.2.1, m_op_ok hi.2.2 hu⟩, m_le.rf w, rfl⟩
  · split at h
    · rename_i u v hu
      cases h
      obtain ⟨q1, q2, q3⟩ := m_lo_ok hi.2.1 hi.2.2 hu
      exact ⟨⟨hi.1, q1, q2⟩, m_le.rf w, q3⟩
    · split at h
      · rename_i u v hu
        cases h
        exact ⟨⟨hi.1, hi.2.1, m_br_ok hi.2.2 hu⟩, m_le.rf w, rfl⟩
      · cases h
theorem m_simple_n {w : mW} {ins : Instr} {pc : Nat} {ls st : List Value} {q : (Nat × List Value × List Value) ⊕ (mR × mW)} (h : m_simple ins pc ls st w = some (.inr q)) : False := by
  unfold m_simple at h
  split at h
  · cases h
  · split at h
    · cases h
    · split at h
      · cases h
      · cases h
theorem m_cpy_le (w : mW) (a n : Nat) : m_le w (m_cpy w a n) := ⟨Nat.le_succ _, Nat.le_add_right _ _, fun k hk => m_mk_K w 20 n n k hk⟩
theorem m_bi_ok {w w' : mW} {k : Nat} {st t : List Value} (hV : m_V w) (hs : ∀ v ∈ st, m_ok w v) (h : m_bi k st w = some (t, w')) : m_V w' ∧ m_le w w' ∧ ∀ v ∈ t, m_ok w' v := by
  unfold m_bi at h
  split at h
  · split at h
    · cases h
      exact ⟨hV, m_le.rf w, List.forall_mem_cons.mpr ⟨trivial, fun v hv => hs v (by simp [hv])⟩⟩
    · cases h
  · split at h
    · split at h
      · cases h
      · cases h
        exact ⟨hV, m_le.rf w, List.forall_mem_cons.mpr ⟨trivial, fun v hv => hs v (by simp [hv])⟩⟩
    · cases h
  · split at h
    · split at h
      · cases h
      · cases h
        refine ⟨m_mk_V hV 20 0 0, m_cpy_le _ _ _, List.forall_mem_cons.mpr ⟨?_, fun v hv => m_ok_le (m_cpy_le _ _ _) (hs v (by simp [hv]))⟩⟩
        exact m_mk_ok w (kd := 20) 0 0 (by omega)
    · cases h
  · split at h
    · cases h
      exact ⟨hV, m_le.rf w, List.forall_mem_cons.mpr ⟨trivial, fun v hv => hs v (by simp [hv])⟩⟩
    · cases h
  · split at h
    · cases h
      exact ⟨hV, m_le.rf w, List.forall_mem_cons.mpr ⟨trivial, fun v hv => hs v (by simp [hv])⟩⟩
    · cases h
  · cases h
/-- what a step gives -/
def m_stepQ (w : mW) (ls st : List Value) (q : mN) : Prop := match q with
  | .inl (_, ls', t, w') => m_inv w' ls' t ∧ m_le w w' ∧ ls'.length = ls.length
  | .inr (.inl (_, args, rest)) => (∀ v ∈ args, m_ok w v) ∧ ∀ v ∈ rest, m_ok w v
  | .inr (.inr (_, w')) => m_V w' ∧ m_le w w'
theorem m_step_q {sc : mS} {M : mM} {pc : Nat} {ls st : List Value} {w : mW} {q : mN} (hi : m_inv w ls st) (h : m_step sc M pc ls st w = some q) : m_stepQ w ls st q := by
  have nx : ∀ {pc : Nat} {t : Option (List Value)}, m_nx pc ls w t = some q → (∀ u, t = some u → ∀ v ∈ u, m_ok w v) → m_stepQ w ls st q := by
    intro pc t h ht
    rcases q with ⟨p', ls', t', w'⟩ | q
    · obtain ⟨h1, -, rfl, rfl⟩ := m_nx_s h
      exact ⟨⟨hi.1, hi.2.1, ht _ h1⟩, m_le.rf _, rfl⟩
    · exact (m_nx_n h).elim
  have nw : ∀ {pc : Nat} {t : Option (List Value × mW)}, m_nw2 pc ls t = some q → (∀ u w', t = some (u, w') → m_V w' ∧ m_le w w' ∧ ∀ v ∈ u, m_ok w' v) → m_stepQ w ls st q := by
    intro pc t h ht
    rcases q with ⟨p', ls', t', w'⟩ | q
    · obtain ⟨h1, -, rfl⟩ := m_nw2_s h
      obtain ⟨a1, a2, a3⟩ := ht _ _ h1
      exact ⟨⟨a1, fun v hv => m_ok_le a2 (hi.2.1 v hv), a3⟩, a2, rfl⟩
    · exact (m_nw2_n h).elim
  have cl : ∀ {x : List Nat}, m_cl x st = some q → m_stepQ w ls st q := by
    intro x h
    obtain ⟨mi, na, kd, y, -, -, -, -, rfl, -⟩ := m_cl_s h
    exact ⟨fun v hv => hi.2.2 v (List.mem_of_mem_take (List.mem_reverse.mp hv)), fun v hv => hi.2.2 v (List.mem_of_mem_drop hv)⟩
  have rt : ∀ {ins : Instr}, m_rt (m_Mr M) ins st w = some q → m_stepQ w ls st q := by
    intro ins h
    rcases m_rt_s h with ⟨-, -, -, rfl⟩ | ⟨t, x, -, -, -, -, rfl⟩ | ⟨x, -, -, -, rfl⟩ <;> exact ⟨hi.1, m_le.rf w⟩
  unfold m_step at h
  split at h
  · cases h
  · split at h
    · exact nx h (fun u hu => m_gf_ok hi.1 hi.2.2 hu)
    · exact nw h (fun u w' hu => m_pf_ok hi.1 hi.2.2 hu)
    · rcases m_nt_s h with ⟨ci, y, t, w', -, hw, rfl⟩ | ⟨e, y, -, -, rfl⟩
      · obtain ⟨a1, a2, a3⟩ := m_nw_ok hi.1 hi.2.2 hw
        exact ⟨⟨a1, fun v hv => m_ok_le a2 (hi.2.1 v hv), a3⟩, a2, rfl⟩
      · exact ⟨m_mk_V hi.1 _ _ _, m_mk_le _ _ _ _⟩
    · exact nw h (fun u w' hu => m_na_ok hi.1 hi.2.2 hu)
    · exact nx h (fun u hu => m_al_ok hi.2.2 hu)
    · exact nx h (fun u hu => m_al_ok hi.2.2 hu)
    · exact nx h (fun u hu => m_al_ok hi.2.2 hu)
    · exact nx h (fun u hu => m_al_ok hi.2.2 hu)
    · exact nw h (fun u w' hu => m_as_ok hi.1 hi.2.2 hu)
    · exact nw h (fun u w' hu => m_as_ok hi.1 hi.2.2 hu)
    · exact nw h (fun u w' hu => m_as_ok hi.1 hi.2.2 hu)
    · exact nx h (fun u hu => m_ldk_ok hi.2.2 hu)
    · exact nx h (fun u hu => m_ldk_ok hi.2.2 hu)
    · exact nx h (fun u hu => m_ldk_ok hi.2.2 hu)
    · split at h
      · exact nw h (fun u w' hu => m_bi_ok hi.1 hi.2.2 hu)
      · exact cl h
    · split at h
      · exact nw h (fun u w' hu => m_bi_ok hi.1 hi.2.2 hu)
      · exact cl h
    · split at h
      · obtain ⟨a, r, rfl, -, -, rfl⟩ := m_obj_s h
        exact ⟨⟨hi.1, hi.2.1, fun v hv => hi.2.2 v (List.mem_cons_of_mem _ hv)⟩, m_le.rf w, rfl⟩
      · exact cl h
    · exact rt h
    · exact rt h
    · exact rt h
    · rcases q with ⟨p', ls', t', w'⟩ | q
      · exact m_simple_ok hi h
      · exact (m_simple_n h).elim
theorem m_en_ok {w : mW} {args : List Value} (h : ∀ v ∈ args, m_ok w v) (n : Nat) : ∀ v ∈ m_en args n, m_ok w v := by
  intro v hv
  rcases List.mem_append.mp hv with q | q
  · exact h v q
  · rw [List.eq_of_mem_replicate q]; trivial
theorem m_hd_ok {w : mW} {M : mM} {pc pc' e : Nat} {ls ls' : List Value} (hl : ∀ v ∈ ls, m_ok w v) (h : m_hd M pc ls e = some (some (pc', ls'))) : (∀ v ∈ ls', m_ok w v) ∧ ls'.length = ls.length := by
  unfold m_hd at h
  split at h
  · cases h
  · split at h
    · cases h
    · split at h
      · cases h
      · split at h
        · split at h
          · cases h; exact ⟨m_st1_ok hl trivial, m_st1_len _ _ _⟩
          · cases h
        · split at h
          · cases h; exact ⟨m_st1_ok hl trivial, m_st1_len _ _ _⟩
          · cases h
        · cases h
/-- how a run ended is no reference -/
def m_rok (r : mR) : Prop := match r with
  | .inl (some (.ref _)) => False
  | _ => True
theorem m_step_rok {sc : mS} {M : mM} {pc : Nat} {ls st : List Value} {w w' : mW} {r : mR} (h : m_step sc M pc ls st w = some (.inr (.inr (r, w')))) : m_rok r := by
  have rt : ∀ {ins : Instr}, m_rt (m_Mr M) ins st w = some (.inr (.inr (r, w'))) → m_rok r := by
    intro ins h
    rcases m_rt_s h with ⟨-, -, -, q⟩ | ⟨t, x, -, -, -, -, q⟩ | ⟨x, -, -, -, q⟩ <;> cases q <;> trivial
  have cl : ∀ {x : List Nat}, m_cl x st = some (.inr (.inr (r, w'))) → m_rok r := by
    intro x h
    obtain ⟨mi, na, kd, y, -, -, -, -, q, -⟩ := m_cl_s h
    cases q
  unfold m_step at h
  split at h
  · cases h
  · split at h <;> first | exact (m_nx_n h).elim | exact (m_nw2_n h).elim | exact rt h | exact cl h | exact (m_simple_n h).elim | skip
    · rcases m_nt_s h with ⟨ci, y, t, w1, -, hw, q⟩ | ⟨e, y, -, -, q⟩ <;> cases q
      trivial
    · split at h
      · exact (m_nw2_n h).elim
      · exact cl h
    · split at h
      · exact (m_nw2_n h).elim
      · exact cl h
    · split at h
      · obtain ⟨a, r, rfl, -, -, q⟩ := m_obj_s h
        cases q
      · exact cl h
theorem m_ok_ret {w : mW} {v : Option Value} (h : m_rok (.inl v)) : ∀ u ∈ v.toList, m_ok w u := by
  intro u hu
  cases v with
  | none => cases hu
  | some x =>
    have : u = x := by simpa using hu
    subst this
    cases u with
    | ref a => exact h.elim
    | _ => trivial
theorem m_run_q (G : Nat → Option mM) (sc : mS) : ∀ (f d : Nat) (M : mM) (pc : Nat) (ls st : List Value) (w w' : mW) (r : mR), m_inv w ls st → m_run G sc f d M pc ls st w = some (r, w') → m_V w' ∧ m_le w w' ∧ m_rok r := by
  intro f
  induction f with
  | zero => intro d M pc ls st w w' r _ h; cases h
  | succ f ih =>
    intro d M pc ls st w w' r hi h
    unfold m_run at h
    split at h
    · cases h
    · rename_i pc1 ls1 st1 w1 hs
      obtain ⟨a1, a2, -⟩ := m_step_q hi hs
      obtain ⟨b1, b2, b3⟩ := ih _ _ _ _ _ _ _ _ a1 h
      exact ⟨b1, a2.tr b2, b3⟩
    · rename_i r1 hs
      cases h
      obtain ⟨a1, a2⟩ := m_step_q hi hs
      exact ⟨a1, a2, m_step_rok hs⟩
    · rename_i mj args rest hs
      obtain ⟨a1, a2⟩ := m_step_q hi hs
      split at h
      · split at h
        · cases h
        · rename_i v w1 hr
          obtain ⟨b1, b2, b3⟩ := ih _ _ _ _ _ _ _ _ ⟨hi.1, m_en_ok a1 _, fun v hv => by cases hv⟩ hr
          obtain ⟨c1, c2, c3⟩ := ih _ _ _ _ _ _ _ _ ⟨b1, fun v hv => m_ok_le b2 (hi.2.1 v hv), fun u hu => by
            rcases List.mem_append.mp hu with q | q
            · exact m_ok_ret b3 u q
            · exact m_ok_le b2 (a2 u q)⟩ h
          exact ⟨c1, b2.tr c2, c3⟩
        · rename_i e w1 hr
          obtain ⟨b1, b2, b3⟩ := ih _ _ _ _ _ _ _ _ ⟨hi.1, m_en_ok a1 _, fun v hv => by cases hv⟩ hr
          split at h
          · cases h
          · cases h
            exact ⟨b1, b2, trivial⟩
          · rename_i pc1 ls1 hh
            obtain ⟨q1, -⟩ := m_hd_ok hi.2.1 hh
            obtain ⟨c1, c2, c3⟩ := ih _ _ _ _ _ _ _ _ ⟨b1, fun v hv => m_ok_le b2 (q1 v hv), fun u hu => by cases hu⟩ h
            exact ⟨c1, b2.tr c2, c3⟩
      · cases h
