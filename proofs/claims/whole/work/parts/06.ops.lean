/-! the small machine's heap instructions -/
/-- a field's link: own's entry idx is field k of kind ci, of type tc -/
def m_kF (own : String) (idx ci k tc : Nat) : Prop := ∃ q : vw_C, vwCl[ci]? = some q ∧ k < q.2.2 ∧ tc = m_tc (m_ty ci k) ∧ tc < 4 ∧ (q.2.1 k).1 = q.1 ∧ Cond.fieldLink own idx q.1 (q.2.1 k).2.1 (q.2.1 k).2.2.1 ∈ m_tbl
theorem m_kF_ci {own : String} {idx ci k tc : Nat} (h : m_kF own idx ci k tc) : ci < 11 := by
  obtain ⟨q, h1, -⟩ := h
  exact (List.getElem?_eq_some_iff.mp h1).1
def m_gf (x : List Nat) (st : List Value) (w : mW) : Option (List Value) := match x, st with
  | ci :: k :: tc :: _, .ref a :: r => if a % 32 = ci + 1 then some (m_rd w a k tc :: r) else none
  | _, _ => none
def m_wr (w : mW) (a k tc : Nat) (v : Value) : Option mW := match tc, v with
  | 0, .int x => some (m_wI w a k x)
  | 1, .int x => if x = 0 ∨ x = 1 then some (m_wI w a k x) else none
  | 2, .ref q => some (m_wP w a k q)
  | 3, .long x => some (m_wJ w a k x)
  | _, _ => none
def m_pf (x : List Nat) (st : List Value) (w : mW) : Option (List Value × mW) := match x, st with
  | ci :: k :: tc :: _, v :: .ref a :: r => if a % 32 = ci + 1 then (match m_wr w a k tc v with
    | some w' => some (r, w')
    | none => none) else none
  | _, _ => none
theorem m_gf_s {x : List Nat} {st t : List Value} {w : mW} (h : m_gf x st w = some t) : ∃ (ci k tc : Nat) (y : List Nat) (a : Nat) (r : List Value), x = ci :: k :: tc :: y ∧ st = .ref a :: r ∧ a % 32 = ci + 1 ∧ t = m_rd w a k tc :: r := by
  unfold m_gf at h
  split at h
  · split at h
    · rename_i hq; cases h; exact ⟨_, _, _, _, _, _, rfl, rfl, hq, rfl⟩
    · cases h
  · cases h
theorem m_pf_s {x : List Nat} {st t : List Value} {w w' : mW} (h : m_pf x st w = some (t, w')) : ∃ (ci k tc : Nat) (y : List Nat) (v : Value) (a : Nat), x = ci :: k :: tc :: y ∧ st = v :: .ref a :: t ∧ a % 32 = ci + 1 ∧ m_wr w a k tc v = some w' := by
  unfold m_pf at h
  split at h
  · split at h
    · split at h
      · rename_i hq _ _ hw; cases h; exact ⟨_, _, _, _, _, _, rfl, rfl, hq, hw⟩
      · cases h
    · cases h
  · cases h
theorem m_fs_get {b : Nat} {ex : Nat → Nat} {w : mW} {ci a k : Nat} (hk : k < m_NF ci) : (m_fs b ex w ci a)[k]? = some (m_cv b ex (m_rd w a k (m_tc (m_ty ci k)))) := by
  simp [m_fs, hk]
theorem m_fs_len {b : Nat} {ex : Nat → Nat} {w : mW} {ci a : Nat} : (m_fs b ex w ci a).length = m_NF ci := by simp [m_fs]
theorem m_fs_set {b : Nat} {ex : Nat → Nat} {w w' : mW} {ci a k : Nat} {v : Value} (hk : k < m_NF ci) (h1 : m_rd w' a k (m_tc (m_ty ci k)) = v) (h2 : ∀ j, j ≠ k → ∀ tc, m_rd w' a j tc = m_rd w a j tc) : m_fs b ex w' ci a = (m_fs b ex w ci a).set k (m_cv b ex v) := by
  apply List.ext_getElem?
  intro j
  by_cases hj : j = k
  · subst hj
    rw [List.getElem?_set_self (by rw [m_fs_len]; exact hk), m_fs_get hk, h1]
  · rw [List.getElem?_set_ne (fun q => hj q.symm)]
    by_cases hl : j < m_NF ci
    · rw [m_fs_get hl, m_fs_get hl, h2 j hj]
    · rw [List.getElem?_eq_none (by rw [m_fs_len]; omega), List.getElem?_eq_none (by rw [m_fs_len]; omega)]
/-- cells that no write has touched -/
theorem m_ent_same {b : Nat} {ex : Nat → Nat} {cA : Nat → Nat} {w w' : mW} {k : Nat} (hK : m_K w' k = m_K w k) (hN : m_N w' (32 * (k + 1) + m_K w k) = m_N w (32 * (k + 1) + m_K w k))
    (hI : m_I w' (32 * (k + 1) + m_K w k) = m_I w (32 * (k + 1) + m_K w k)) (hP : m_P w' (32 * (k + 1) + m_K w k) = m_P w (32 * (k + 1) + m_K w k)) (hJ : m_J w' (32 * (k + 1) + m_K w k) = m_J w (32 * (k + 1) + m_K w k)) : m_ent b ex cA w' k = m_ent b ex cA w k := by
  have hr : ∀ j tc, m_rd w' (32 * (k + 1) + m_K w k) j tc = m_rd w (32 * (k + 1) + m_K w k) j tc := by
    intro j tc
    unfold m_rd
    split <;> simp only [hI, hP, hJ]
  unfold m_ent m_fs
  rw [hK, hN, hI, hJ]
  simp only [hr]
theorem m_u2_a {α : Type} (f : Nat → Nat → α) (a k : Nat) (v : α) {i : Nat} (h : i ≠ a) : m_u2 f a k v i = f i := by
  funext j
  simp [m_u2, h]
theorem m_wr_s {w w' : mW} {a k tc : Nat} {v : Value} (h : m_wr w a k tc v = some w') : m_n w' = m_n w ∧ m_s w' = m_s w ∧ m_K w' = m_K w ∧ m_N w' = m_N w ∧ (∀ i, i ≠ a → m_I w' i = m_I w i ∧ m_P w' i = m_P w i ∧ m_J w' i = m_J w i) ∧ m_rd w' a k tc = v ∧ (∀ j, j ≠ k → ∀ t, m_rd w' a j t = m_rd w a j t) ∧ tc < 4 := by
  unfold m_wr at h
  split at h
  · cases h
    refine ⟨rfl, rfl, rfl, rfl, fun i hi => ⟨m_u2_a _ _ _ _ hi, rfl, rfl⟩, ?_, fun j hj t => ?_, by omega⟩
    · simp [m_rd, m_I, m_wI, m_u2]
    · unfold m_rd; split <;> simp [m_I, m_P, m_J, m_wI, m_u2, hj]
  · split at h
    · cases h
      refine ⟨rfl, rfl, rfl, rfl, fun i hi => ⟨m_u2_a _ _ _ _ hi, rfl, rfl⟩, ?_, fun j hj t => ?_, by omega⟩
      · simp [m_rd, m_I, m_wI, m_u2]
      · unfold m_rd; split <;> simp [m_I, m_P, m_J, m_wI, m_u2, hj]
    · cases h
  · cases h
    refine ⟨rfl, rfl, rfl, rfl, fun i hi => ⟨rfl, m_u2_a _ _ _ _ hi, rfl⟩, ?_, fun j hj t => ?_, by omega⟩
    · simp [m_rd, m_P, m_wP, m_u2]
    · unfold m_rd; split <;> simp [m_I, m_P, m_J, m_wP, m_u2, hj]
  · cases h
    refine ⟨rfl, rfl, rfl, rfl, fun i hi => ⟨rfl, rfl, m_u2_a _ _ _ _ hi⟩, ?_, fun j hj t => ?_, by omega⟩
    · simp [m_rd, m_J, m_wJ, m_u2]
    · unfold m_rd; split <;> simp [m_I, m_P, m_J, m_wJ, m_u2, hj]
  · cases h
theorem m_wr_fit {b : Nat} {ex : Nat → Nat} {w w' : mW} {a k : Nat} {ty : FieldType} {v : Value} (h : m_wr w a k (m_tc ty) v = some w') : narrow ty (m_cv b ex v) = m_cv b ex v ∧ fits ty (m_cv b ex v) = true := by
  cases ty <;> cases v <;> simp only [m_tc, m_wr, reduceCtorEq] at h <;> try (exact ⟨rfl, rfl⟩)
  · rename_i x
    split at h
    · rename_i hq
      rcases hq with rfl | rfl <;> exact ⟨rfl, rfl⟩
    · cases h
  · rename_i q
    by_cases hq : q = 0 <;> simp [m_cv, hq, narrow, fits]
  · rename_i q
    by_cases hq : q = 0 <;> simp [m_cv, hq, narrow, fits]
section MFL
variable {p : Program} {l : Launch} {e : Env} {R : Room} {s : State} {m : MethodId} {args : Array Value} {below : List Frame} {meth : Method} {c : Code} {H : Heap} {locs : List Loc} {cells slots : Nat} {Q : State → Prop} {cc : ByteArray} {pc : Nat} {ls : Array Slot}
variable {b : Nat} {ex : Nat → Nat} {D : va_G} {cA : Nat → Nat} {w w' : mW} {A : Nat → Prop} {H0 : Heap}
theorem m_gf_W (hx : p.tables.exec = Jvm.exec) (hb : c.code = cc) (hts : ∀ w ∈ m_tbl, w.before args s = true) {own : String} (hown : s.vm.findClass own = some m.cls) (hK : va_K D vwCl (m_ta cA) s) (hH : m_H b ex D cA w H) {idx : Nat} {x : List Nat} {st t : List Value} (hok : ∀ v ∈ st, m_ok w v)
    (h : m_gf x st w = some t) (hlk : m_kF own idx (x.getD 0 0) (x.getD 1 0) (x.getD 2 0)) (hd : decode cc pc = .ok (.getfield idx, 3))
    (k : W p l e R s m args below meth c H locs cells slots Q (F0 m (pc + 3) ls (t.map (m_cv b ex)))) : W p l e R s m args below meth c H locs cells slots Q (F0 m pc ls (st.map (m_cv b ex))) := by
  obtain ⟨ci, kf, tc, y, a, r, rfl, rfl, ha, rfl⟩ := m_gf_s h
  have hci := m_kF_ci hlk
  obtain ⟨⟨C, T, N⟩, h1, h2, h3, h4, h5, h6⟩ := hlk
  simp only [List.getD_cons_zero, List.getD_cons_succ] at h1 h2 h3 h4 h5 h6 hci
  obtain ⟨g1, g2, g3, g4, g5⟩ := m_cls _ _ h1
  have hat := m_H_obj hH (hok _ List.mem_cons_self) ha (by omega)
  have h0 : ¬ a = 0 := fun q => by subst q; simp at ha
  rw [List.map_cons, m_cv_ref h0]
  refine va_get hx hb hts g3 hown hK (m_one hat) 0 rfl h1 kf h2 (hts _ h6) (fun x q => by rw [h5] at q; exact q) (m_fs_get (by rw [← g2]; exact h2)) hd ?_
  rw [← h3]
  exact k
theorem m_pf_W (hx : p.tables.exec = Jvm.exec) (hb : c.code = cc) (hts : ∀ w ∈ m_tbl, w.before args s = true) {own : String} (hown : s.vm.findClass own = some m.cls) (hK : va_K D vwCl (m_ta cA) s) (hH : m_H b ex D cA w H) (hA : ∀ q, b ≤ q → A q) (hS : va_S A H0 H locs) {idx : Nat} {x : List Nat} {st t : List Value} (hok : ∀ v ∈ st, m_ok w v)
    (h : m_pf x st w = some (t, w')) (hlk : m_kF own idx (x.getD 0 0) (x.getD 1 0) (x.getD 2 0)) (hfin : ∀ q, vwCl[x.getD 0 0]? = some q → (q.2.1 (x.getD 1 0)).2.2.2 = false ∨ ((q.2.1 (x.getD 1 0)).2.2.2 = true ∧ meth.name = "<init>" ∧ (q.2.1 (x.getD 1 0)).1 = own)) (hd : decode cc pc = .ok (.putfield idx, 3))
    (k : ∀ (H1 : Heap) (locs1 : List Loc), m_H b ex D cA w' H1 → va_S A H0 H1 locs1 → W p l e R s m args below meth c H1 locs1 cells slots Q (F0 m (pc + 3) ls (t.map (m_cv b ex)))) : W p l e R s m args below meth c H locs cells slots Q (F0 m pc ls (st.map (m_cv b ex))) := by
  obtain ⟨ci, kf, tc, y, v, a, rfl, rfl, ha, hw⟩ := m_pf_s h
  have hci := m_kF_ci hlk
  obtain ⟨⟨C, T, N⟩, h1, h2, h3, h4, h5, h6⟩ := hlk
  have hf := hfin _ h1
  simp only [List.getD_cons_zero, List.getD_cons_succ] at h1 h2 h3 h4 h5 h6 hci hf
  obtain ⟨g1, g2, g3, g4, g5⟩ := m_cls _ _ h1
  have hoa := hok _ (List.mem_cons_of_mem _ List.mem_cons_self)
  have hat := m_H_obj hH hoa ha (by omega)
  have h0 : ¬ a = 0 := fun q => by subst q; simp at ha
  have hkn : kf < m_NF ci := by rw [← g2]; exact h2
  rw [List.map_cons, List.map_cons, m_cv_ref h0]
  subst h3
  obtain ⟨n1, n2, n3, n4, n5, n6, n7, -⟩ := m_wr_s hw
  obtain ⟨f1, f2⟩ := m_wr_fit (b := b) (ex := ex) hw
  have had : m_ad b ex a = b + (a / 32 - 1) := m_ad_k (by omega)
  refine m_put0 hx hb hts g3 (m_ty ci) g4 g5 hown hK hat (hA _ (by rw [had]; omega)) hS h1 kf h2 (hts _ h6) (fun x q => by rw [h5] at q; exact q) hf (g4 kf h2) f1 f2 (by rw [m_fs_len]; exact hkn) hd (fun H1 locs1 e1 e2 e3 e4 => k H1 locs1 ?_ e4)
  obtain ⟨k1, k2, k3⟩ := m_ok_k hoa (by omega) (by omega)
  refine m_H_upd hH (k0 := a / 32 - 1) n1 n3 (fun kk hkl hkk => ?_) ?_ e2 (by rw [← had]; exact e3)
  · by_cases hq : 32 * (kk + 1) + m_K w kk = a
    · have hz := hH.2.1 kk hkl
      omega
    · obtain ⟨z1, z2, z3⟩ := n5 _ hq
      exact m_ent_same (by rw [n3]) (by rw [n4]) z1 z2 z3
  · rw [← had]
    have hz : m_ent b ex cA w' (a / 32 - 1) = .inr (ci, (m_fs b ex w ci a).set kf (m_cv b ex v)) := by
      rw [← m_fs_set hkn n6 n7]
      unfold m_ent
      rw [n3, k3, if_pos (by omega), ha, show 32 * (a / 32 - 1 + 1) + (ci + 1) = a by omega]
      rfl
    rw [hz]
    exact e1
end MFL
