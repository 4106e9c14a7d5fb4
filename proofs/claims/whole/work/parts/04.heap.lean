/-! the heap: one cell at a time -/
section MH0
variable {p : Program} {l : Launch} {e : Env} {R : Room} {s : State} {m : MethodId} {args : Array Value} {below : List Frame} {meth : Method} {c : Code} {H : Heap} {locs : List Loc} {cells slots : Nat} {Q : State → Prop}
variable {cc : ByteArray} {pc : Nat} {ls : Array Slot} {rest : List Value} {D : va_G} {cl : List vw_C} {A : Nat → Prop} {a : Nat} {tys : List (ClassId × FieldType)} {H0 : Heap}
theorem m_one {D : va_G} {cl : List vw_C} {q : Nat × va_E} {H : Heap} (h : va_at D cl q H) : va_P D cl [q] H := by
  intro k x hx
  have hz : k < 1 := (List.getElem?_eq_some_iff.mp hx).1
  rw [show k = 0 by omega] at hx
  cases hx
  exact h
theorem m_put0 (hexec : p.tables.exec = Jvm.exec) (hb : c.code = cc) {own ref C : String} {T : u_T} {N ci index : Nat} {Ts : List Cond} (hts : ∀ w ∈ Ts, w.before args s = true) (hin : ∀ w ∈ u_ws C T N, w ∈ Ts) (ty0 : Nat → FieldType) (hty : ∀ k, k < N → parseFieldDescriptor (T k).2.2.1 = some (ty0 k)) (hnm : ∀ a, a < N → ∀ b, b < N → a ≠ b → (T a).2.1 ≠ (T b).2.1) (hown : s.vm.findClass own = some m.cls) (hK : va_K D cl tys s) {fs : List Value} (hat : va_at D cl (a, .inr (ci, fs)) H) (hA : A a) (hS0 : va_S A H0 H locs) (hc : cl[ci]? = some (C, T, N)) (k : Nat) (hk : k < N) (hlink : (Cond.fieldLink own index ref (T k).2.1 (T k).2.2.1).before args s = true) (hsame : ∀ x, s.fieldFound? (T k).1 (T k).2.1 (T k).2.2.1 = some x → s.fieldFound? ref (T k).2.1 (T k).2.2.1 = some x) (hfin : (T k).2.2.2 = false ∨ ((T k).2.2.2 = true ∧ meth.name = "<init>" ∧ (T k).1 = own)) {ty : FieldType} {v : Value} (hd : parseFieldDescriptor (T k).2.2.1 = some ty) (hn : narrow ty v = v) (hfit : fits ty v = true) (hl : k < fs.length)
    (hdg : decode cc pc = .ok (.putfield index, 3)) (kk : ∀ (H1 : Heap) (locs1 : List Loc), va_at D cl (a, .inr (ci, fs.set k v)) H1 → H1.size = H.size → (∀ q : Nat, q ≠ a → H1[q]? = H[q]?) → va_S A H0 H1 locs1 → W p l e R s m args below meth c H1 locs1 cells slots Q (F0 m (pc + 3) ls rest)) : W p l e R s m args below meth c H locs cells slots Q (F0 m pc ls (v :: .ref a :: rest)) := by
  have hap := va_apart (own := own) hts hin ty0 hty hnm hK hc
  obtain ⟨r, h1, cell, q1, q2, q3, q4⟩ := hat
  have hr : r = (C, T, N) := Option.some.inj (h1.symm.trans hc)
  subst hr
  obtain ⟨hS, hfc, kC, hkC, hkind⟩ := hK.1 ci _ hc
  obtain ⟨cf, kf, fi, f, hi, hsl⟩ := hS k hk
  have hlay := hts _ (hin _ (u_in_lay hk))
  unfold u_lay at hlay
  have hst := (u_facts hfc hkC (u_lays hts hin hk) hi).1
  rcases hfin with hfin | ⟨hfin, hin2, hdecl⟩
  · rw [if_neg (by rw [hfin]; decide)] at hlay
    have h6 := u_store hfc hkC hkind hlay hi hd hn hfit
    refine W.putK hexec hb (f := f) ⟨hown, hlink, ⟨_, _, _, hsame _ hi⟩, hst⟩ (by rw [q2]; exact h6) q1 q3 (by rw [hsl]; exact k2_hasslot (q4 k hk)) rfl rfl hdg fun H' e1 e2 e3 => ?_
    rw [hsl] at e1 ⊢
    exact kk H' _ ⟨_, hc, t_OB.to (V := updV (vp_V fs) k v) ⟨_, e1, q2, q3, t_set q4 hap hk v⟩ (fun j _ => vp_updV_set hl v j)⟩ e2 e3 (hS0.put e2 e3 hA)
  · rw [if_pos hfin] at hlay
    have hcf : m.cls = cf := by
      obtain ⟨_, _, c', _, _, _, -, -, hf', -, -, -, hown2, -⟩ := Cond.laysFinal_spec hlay
      have e1 : c' = cf := by have := hi.symm.trans hf'; simp at this; exact this.1.symm
      rw [hdecl] at hown2
      rw [← e1]; exact Option.some.inj (hown.symm.trans hown2)
    have h6 := u_fits hfc hkC hkind (Or.inr hlay) hi hd hn hfit
    refine W.putFinK hexec hb hown hlink (hsame _ hi) hst hcf hin2 (by rw [q2]; exact h6) q1 q3 (by rw [hsl]; exact k2_hasslot (q4 k hk)) rfl rfl hdg fun H' e1 e2 e3 => ?_
    rw [hsl] at e1 ⊢
    exact kk H' _ ⟨_, hc, t_OB.to (V := updV (vp_V fs) k v) ⟨_, e1, q2, q3, t_set q4 hap hk v⟩ (fun j _ => vp_updV_set hl v j)⟩ e2 e3 (hS0.put e2 e3 hA)
theorem m_iast0 (hexec : p.tables.exec = Jvm.exec) (hb : c.code = cc) (hK : va_K D cl tys s) {cA : ClassId} {n : Nat} {f : Nat → Int32} (hat : va_at D cl (a, .inl (cA, n, .inl f)) H) (hA : A a) (hS : va_S A H0 H locs) (t0 : Nat) (ht : tys[t0]? = some (cA, .int)) {i : Int32} {x : Int32} (hin : vp_in i n) (hdg : decode cc pc = .ok (.iastore, 1))
    (kk : ∀ (H1 : Heap) (locs1 : List Loc), va_at D cl (a, .inl (cA, n, .inl (upd f i.toNatClampNeg x))) H1 → H1.size = H.size → (∀ q : Nat, q ≠ a → H1[q]? = H[q]?) → va_S A H0 H1 locs1 → W p l e R s m args below meth c H1 locs1 cells slots Q (F0 m (pc + 1) ls rest)) : W p l e R s m args below meth c H locs cells slots Q (F0 m pc ls (.int x :: .int i :: .ref a :: rest)) := by
  refine W.iast hexec hb hat ((hK.2 t0 _ ht).1 n (fun j => .int (f j))) (fun q => by cases q) (by show ¬ (i < 0 ∨ (arrV _ _ _).slots.size ≤ _); rw [arrV_size]; exact hin) rfl rfl hdg fun H1 e z oq => ?_
  refine kk H1 _ ?_ z oq (hS.put z oq hA)
  show H1[a]? = some (vp_cell _ _)
  rw [e]
  rw [vp_cell_i, vp_cell_i, arrV_store]
  congr 2
  funext q
  by_cases hq : q = i.toNatClampNeg
  · subst hq
    simp [updV, upd]
  · simp [updV, upd, hq]
theorem m_bast0 (hexec : p.tables.exec = Jvm.exec) (hb : c.code = cc) (hK : va_K D cl tys s) {cA : ClassId} {n : Nat} {f : Nat → Int32} (hat : va_at D cl (a, .inl (cA, n, .inl f)) H) (hA : A a) (hS : va_S A H0 H locs) (t0 : Nat) (ht : tys[t0]? = some (cA, .byte)) {i : Int32} {x : Int32} (hin : vp_in i n) (hdg : decode cc pc = .ok (.bastore, 1))
    (kk : ∀ (H1 : Heap) (locs1 : List Loc), va_at D cl (a, .inl (cA, n, .inl (upd f i.toNatClampNeg (vp_nar .byte x)))) H1 → H1.size = H.size → (∀ q : Nat, q ≠ a → H1[q]? = H[q]?) → va_S A H0 H1 locs1 → W p l e R s m args below meth c H1 locs1 cells slots Q (F0 m (pc + 1) ls rest)) : W p l e R s m args below meth c H locs cells slots Q (F0 m pc ls (.int x :: .int i :: .ref a :: rest)) := by
  refine W.bast hexec hb hat ((hK.2 t0 _ ht).1 n (fun j => .int (f j))) (fun q => by cases q) (by show ¬ (i < 0 ∨ (arrV _ _ _).slots.size ≤ _); rw [arrV_size]; exact hin) rfl rfl hdg fun H1 e z oq => ?_
  refine kk H1 _ ?_ z oq (hS.put z oq hA)
  show H1[a]? = some (vp_cell _ _)
  rw [e]
  rw [vp_cell_i, vp_cell_i, arrV_store]
  congr 2
  funext q
  by_cases hq : q = i.toNatClampNeg
  · subst hq
    simp [updV, upd, vp_nar]
    try rfl
  · simp [updV, upd, hq]
theorem m_zast0 (hexec : p.tables.exec = Jvm.exec) (hb : c.code = cc) (hK : va_K D cl tys s) {cA : ClassId} {n : Nat} {f : Nat → Int32} (hat : va_at D cl (a, .inl (cA, n, .inl f)) H) (hA : A a) (hS : va_S A H0 H locs) (t0 : Nat) (ht : tys[t0]? = some (cA, .boolean)) {i : Int32} {x : Int32} (hin : vp_in i n) (hdg : decode cc pc = .ok (.bastore, 1))
    (kk : ∀ (H1 : Heap) (locs1 : List Loc), va_at D cl (a, .inl (cA, n, .inl (upd f i.toNatClampNeg (vp_nar .boolean x)))) H1 → H1.size = H.size → (∀ q : Nat, q ≠ a → H1[q]? = H[q]?) → va_S A H0 H1 locs1 → W p l e R s m args below meth c H1 locs1 cells slots Q (F0 m (pc + 1) ls rest)) : W p l e R s m args below meth c H locs cells slots Q (F0 m pc ls (.int x :: .int i :: .ref a :: rest)) := by
  refine W.zast hexec hb hat ((hK.2 t0 _ ht).1 n (fun j => .int (f j))) (fun q => by cases q) (by show ¬ (i < 0 ∨ (arrV _ _ _).slots.size ≤ _); rw [arrV_size]; exact hin) rfl rfl hdg fun H1 e z oq => ?_
  refine kk H1 _ ?_ z oq (hS.put z oq hA)
  show H1[a]? = some (vp_cell _ _)
  rw [e]
  rw [vp_cell_i, vp_cell_i, arrV_store]
  congr 2
  funext q
  by_cases hq : q = i.toNatClampNeg
  · subst hq
    simp [updV, upd, vp_nar]
    try rfl
  · simp [updV, upd, hq]
theorem m_last0 (hexec : p.tables.exec = Jvm.exec) (hb : c.code = cc) (hK : va_K D cl tys s) {cA : ClassId} {n : Nat} {f : Nat → Int64} (hat : va_at D cl (a, .inl (cA, n, .inr (.inl f))) H) (hA : A a) (hS : va_S A H0 H locs) (t0 : Nat) (ht : tys[t0]? = some (cA, .long)) {i : Int32} {x : Int64} (hin : vp_in i n) (hdg : decode cc pc = .ok (.lastore, 1))
    (kk : ∀ (H1 : Heap) (locs1 : List Loc), va_at D cl (a, .inl (cA, n, .inr (.inl (vp_updL f i.toNatClampNeg x)))) H1 → H1.size = H.size → (∀ q : Nat, q ≠ a → H1[q]? = H[q]?) → va_S A H0 H1 locs1 → W p l e R s m args below meth c H1 locs1 cells slots Q (F0 m (pc + 1) ls rest)) : W p l e R s m args below meth c H locs cells slots Q (F0 m pc ls (.long x :: .int i :: .ref a :: rest)) := by
  refine W.last hexec hb hat ((hK.2 t0 _ ht).1 n (fun j => .long (f j))) (fun q => by cases q) (by show ¬ (i < 0 ∨ (arrV _ _ _).slots.size ≤ _); rw [arrV_size]; exact hin) rfl rfl hdg fun H1 e z oq => ?_
  refine kk H1 _ ?_ z oq (hS.put z oq hA)
  show H1[a]? = some (vp_cell _ _)
  rw [e]
  rw [vp_cell_l, vp_cell_l, arrV_store]
  congr 2
  funext q
  by_cases hq : q = i.toNatClampNeg
  · subst hq
    simp [updV, vp_updL]
  · simp [updV, vp_updL, hq]
end MH0
/-! what a world says of the heap -/
def m_tys : List (Nat → FieldType) := [tyX1, tyX3, tyX4, tyX5, tyX6, tyX7, tyX8, tyX9, tyX10, tyX11, tyX12]
def m_ty (ci k : Nat) : FieldType := match m_tys[ci]? with
  | some f => f k
  | none => .int
def m_NF (ci : Nat) : Nat := match vwCl[ci]? with
  | some q => q.2.2
  | none => 0
/-- 0 int, 1 boolean, 2 reference, 3 long -/
def m_tc (ty : FieldType) : Nat := match ty with
  | .int => 0
  | .boolean => 1
  | .object _ => 2
  | .array _ => 2
  | .long => 3
  | _ => 4
def m_rd (w : mW) (a k tc : Nat) : Value := match tc with
  | 0 => .int (m_I w a k)
  | 1 => .int (m_I w a k)
  | 2 => .ref (m_P w a k)
  | 3 => .long (m_J w a k)
  | _ => .null
def m_fs (b : Nat) (ex : Nat → Nat) (w : mW) (ci a : Nat) : List Value := (List.range (m_NF ci)).map (fun k => m_cv b ex (m_rd w a k (m_tc (m_ty ci k))))
def m_ent (b : Nat) (ex : Nat → Nat) (cA : Nat → Nat) (w : mW) (k : Nat) : va_E :=
  if m_K w k < 20 then .inr (m_K w k - 1, m_fs b ex w (m_K w k - 1) (32 * (k + 1) + m_K w k))
  else if m_K w k = 23 then .inl (cA (m_K w k), m_N w (32 * (k + 1) + m_K w k), .inr (.inl (m_J w (32 * (k + 1) + m_K w k))))
  else .inl (cA (m_K w k), m_N w (32 * (k + 1) + m_K w k), .inl (m_I w (32 * (k + 1) + m_K w k)))
def m_H (b : Nat) (ex : Nat → Nat) (D : va_G) (cA : Nat → Nat) (w : mW) (H : Heap) : Prop := H.size = b + m_n w ∧ (∀ k : Nat, k < m_n w → m_K w k < 32) ∧ ∀ k : Nat, k < m_n w → m_K w k < 24 → va_at D vwCl (b + k, m_ent b ex cA w k) H
/-- a reference that the world knows -/
def m_okr (w : mW) (a : Nat) : Prop := a = 0 ∨ (a % 32 = 24 ∨ a % 32 = 25) ∨ (1 ≤ a / 32 ∧ a / 32 - 1 < m_n w ∧ m_K w (a / 32 - 1) = a % 32)
def m_ok (w : mW) (v : Value) : Prop := match v with
  | .ref a => m_okr w a
  | _ => True
def m_ta (cA : Nat → Nat) : List (ClassId × FieldType) := [(cA 20, .int), (cA 21, .byte), (cA 22, .boolean), (cA 23, .long)]
theorem m_ok_k {w : mW} {a : Nat} (h : m_ok w (.ref a)) (h1 : a % 32 < 24) (h0 : 0 < a % 32) : 1 ≤ a / 32 ∧ a / 32 - 1 < m_n w ∧ m_K w (a / 32 - 1) = a % 32 := by
  have h2 : a = 0 ∨ (a % 32 = 24 ∨ a % 32 = 25) ∨ (1 ≤ a / 32 ∧ a / 32 - 1 < m_n w ∧ m_K w (a / 32 - 1) = a % 32) := h
  rcases h2 with h | h | h
  · subst h; simp at h0
  · omega
  · exact h
theorem m_ad_k {b : Nat} {ex : Nat → Nat} {a : Nat} (h1 : a % 32 < 24) : m_ad b ex a = b + (a / 32 - 1) := by
  unfold m_ad
  rw [if_neg (by omega)]
theorem m_H_at {b : Nat} {ex : Nat → Nat} {D : va_G} {cA : Nat → Nat} {w : mW} {H : Heap} (h : m_H b ex D cA w H) {a : Nat} (ho : m_ok w (.ref a)) (h1 : a % 32 < 24) (h0 : 0 < a % 32) : va_at D vwCl (m_ad b ex a, m_ent b ex cA w (a / 32 - 1)) H ∧ 32 * (a / 32 - 1 + 1) + m_K w (a / 32 - 1) = a ∧ m_K w (a / 32 - 1) = a % 32 := by
  obtain ⟨q1, q2, q3⟩ := m_ok_k ho h1 h0
  refine ⟨?_, by omega, q3⟩
  rw [m_ad_k h1]
  exact h.2.2 _ q2 (by omega)
theorem m_H_obj {b : Nat} {ex : Nat → Nat} {D : va_G} {cA : Nat → Nat} {w : mW} {H : Heap} (h : m_H b ex D cA w H) {a ci : Nat} (ho : m_ok w (.ref a)) (h1 : a % 32 = ci + 1) (hc : ci < 19) : va_at D vwCl (m_ad b ex a, .inr (ci, m_fs b ex w ci a)) H := by
  obtain ⟨q1, q2, q3⟩ := m_H_at h ho (by omega) (by omega)
  unfold m_ent at q1
  rw [q2, q3, h1, if_pos (by omega)] at q1
  exact q1
theorem m_H_arr {b : Nat} {ex : Nat → Nat} {D : va_G} {cA : Nat → Nat} {w : mW} {H : Heap} (h : m_H b ex D cA w H) {a : Nat} (ho : m_ok w (.ref a)) (h1 : 20 ≤ a % 32) (h2 : a % 32 < 23) : va_at D vwCl (m_ad b ex a, .inl (cA (a % 32), m_N w a, .inl (m_I w a))) H := by
  obtain ⟨q1, q2, q3⟩ := m_H_at h ho (by omega) (by omega)
  unfold m_ent at q1
  rw [q2, q3, if_neg (by omega), if_neg (by omega)] at q1
  exact q1
theorem m_H_lng {b : Nat} {ex : Nat → Nat} {D : va_G} {cA : Nat → Nat} {w : mW} {H : Heap} (h : m_H b ex D cA w H) {a : Nat} (ho : m_ok w (.ref a)) (h1 : a % 32 = 23) : va_at D vwCl (m_ad b ex a, .inl (cA 23, m_N w a, .inr (.inl (m_J w a)))) H := by
  obtain ⟨q1, q2, q3⟩ := m_H_at h ho (by omega) (by omega)
  unfold m_ent at q1
  rw [q2, q3, h1, if_neg (by omega), if_pos rfl] at q1
  exact q1
/-- one cell has changed -/
theorem m_H_upd {b : Nat} {ex : Nat → Nat} {D : va_G} {cA : Nat → Nat} {w w' : mW} {H H1 : Heap} (h : m_H b ex D cA w H) {k0 : Nat} (hn : m_n w' = m_n w) (hk : m_K w' = m_K w)
    (he : ∀ k, k < m_n w → k ≠ k0 → m_ent b ex cA w' k = m_ent b ex cA w k) (h0 : va_at D vwCl (b + k0, m_ent b ex cA w' k0) H1) (hs : H1.size = H.size) (ho : ∀ q : Nat, q ≠ b + k0 → H1[q]? = H[q]?) : m_H b ex D cA w' H1 := by
  refine ⟨by rw [hs, hn]; exact h.1, by rw [hn, hk]; exact h.2.1, fun k hk1 hk2 => ?_⟩
  rw [hn] at hk1
  by_cases hq : k = k0
  · subst hq; exact h0
  · rw [he k hk1 hq]
    exact (h.2.2 k hk1 (by rw [← hk]; exact hk2)).kept (ho _ (by simp; omega))
