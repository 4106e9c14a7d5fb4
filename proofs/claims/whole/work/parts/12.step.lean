/-! what holds around a method's body -/
def m_A (b : Nat) : Nat → Prop := fun q => b ≤ q
def m_rm (d mc ms : Nat) : Room := { frames := d + 12, cells := mc, slots := ms, locals := 64 * d + 400 }
def m_lens : List Nat := m_strs.map (fun q => q.2.2.2.length)
def m_byts : List (List Int32) := m_strs.map (fun q => q.2.2.2.map Int32.ofNat)
/-- what the text constants hold -/
def m_vS (ex av : Nat → Nat) (A : Nat → Prop) (U : State) (H : Heap) : Prop := ∀ k : Nat, k < m_strs.length → va_O "java/lang/String" (ex (32 * (k + 1) + 25)) A U H ∧ va_OF "java/lang/String" "coder" "B" (.int 0) (ex (32 * (k + 1) + 25)) A U H ∧ va_OF "java/lang/String" "value" "[B" (.ref (av k)) (ex (32 * (k + 1) + 25)) A U H ∧ va_T .byte (av k) (m_lens.getD k 0) (fun j => .int ((m_byts.getD k []).getD j 0)) A U H
theorem m_vS.moved {ex av : Nat → Nat} {A : Nat → Prop} {u U : State} {H : Heap} (hvm : u.vm.Alike U.vm) (h : m_vS ex av A u H) : m_vS ex av A U H :=
  fun k hk => ⟨va_O.moved hvm (h k hk).1, va_OF.moved hvm (h k hk).2.1, va_OF.moved hvm (h k hk).2.2.1, va_T.moved hvm (h k hk).2.2.2⟩
theorem m_vS.kept {ex av : Nat → Nat} {A : Nat → Prop} {U : State} {H H1 : Heap} (h : m_vS ex av A U H) (hq : ∀ a : Nat, a < H.size → ¬ A a → H1[a]? = H[a]?) : m_vS ex av A U H1 :=
  fun k hk => ⟨(h k hk).1.kept hq, (h k hk).2.1.kept hq, (h k hk).2.2.1.kept hq, (h k hk).2.2.2.kept hq⟩
theorem m_vS.recv {ex av : Nat → Nat} {A : Nat → Prop} {s : State} {H : Heap} {locs : List Loc} {k : Nat} (h : m_vS ex av A s s.heap) (hk : k < m_strs.length) (hS : va_S A s.heap H locs) : ∃ cell : Cell, H[ex (32 * (k + 1) + 25)]? = some cell ∧ cell.vm.isStatics = false ∧ s.vm.findClass "java/lang/String" = some cell.cls := by
  obtain ⟨cell, h1, h2, h3, -⟩ := (h k hk).1.kept hS.2.1
  exact ⟨cell, h1, h2, h3⟩
def m_ST (b : Nat) (ex : Nat → Nat) (U : State) : Prop := (∀ (k : Nat) (q : String × Nat × String × List Nat), m_strs[k]? = some q → vk_R q.1 q.2.1 q.2.2.1 (ex (32 * (k + 1) + 25)) U) ∧ (∃ av : Nat → Nat, m_vS ex av (m_A b) U U.heap) ∧ va_Z "java/lang/String" "COMPACT_STRINGS" "Z" (.int 1) (m_A b) U U.heap ∧ va_Zq "jdk/internal/util/Preconditions" "SIOOBE_FORMATTER" "Ljava/util/function/BiFunction;" (m_A b) U U.heap
/-- private constructors of nested kinds, linked by the nest -/
def m_nst : List (Nat × MethodName) := [(22, ⟨"FerryHall$Model", "<init>", "()V"⟩), (59, ⟨"FerryHall$Paths", "<init>", "()V"⟩), (66, ⟨"FerryHall$WhatIf", "<init>", "()V"⟩), (80, ⟨"FerryHall$Way", "<init>", "()V"⟩)]
/-- whose constructors are declared (what a throw asks), and what is thrown and caught -/
def m_dcl : List String := ["java/lang/RuntimeException", "java/lang/Exception", "java/lang/Throwable"]
def m_cst : List String := ["java/util/NoSuchElementException", "java/lang/IllegalArgumentException"]
def m_NW (U : State) : Prop := (∀ q ∈ m_nst, va_Nw (.methodLinkNest "FerryHall" q.1 q.2 "FerryHall") U) ∧ (∀ y ∈ m_dcl, va_Nw (.declares (Bundle.initS y)) U) ∧ ∀ y ∈ m_cst, va_Nw (.castable y y) U
def m_Kn (D : va_G) (cA : Nat → Nat) (b : Nat) (ex : Nat → Nat) (sc : mS) (U : State) : Prop :=
  va_K D vwCl (m_ta cA) U ∧ vx_Zq Bundle.tN "UNASSIGNED_STACK" Bundle.steD (m_A b) U U.heap ∧ vx_Zq Bundle.tN "SUPPRESSED_SENTINEL" Bundle.listD (m_A b) U U.heap ∧ m_SC ex sc (m_A b) U U.heap ∧ m_ST b ex U ∧ m_NW U
theorem m_Kn_to {D : va_G} {cA : Nat → Nat} {b : Nat} {ex : Nat → Nat} {sc : mS} {s U : State} {locs : List Loc} (hW : s.WarmedH U.vm) (hS : va_S (m_A b) s.heap U.heap locs) (h : m_Kn D cA b ex sc s) : m_Kn D cA b ex sc U := by
  obtain ⟨h1, h2, h3, h4, ⟨h5, ⟨av, h6⟩, h8, h11⟩, h7, h9, h10⟩ := h
  refine ⟨va_K.moved hW.alike h1, vx_Zq.moved hW.alike (h2.kept hS.2.1), vx_Zq.moved hW.alike (h3.kept hS.2.1), fun a ha => ?_, ⟨fun k q hq => vk_R.warm hW (h5 k q hq), ⟨av, m_vS.moved hW.alike (h6.kept hS.2.1)⟩, va_Z.moved hW.alike (h8.kept hS.2.1), va_Zq.moved hW.alike (h11.kept hS.2.1)⟩, fun q hq => va_Nw.warmM hW (h7 q hq), fun y hy => va_Nw.warmD hW (h9 y hy), fun y hy => va_Nw.warmC hW (h10 y hy)⟩
  obtain ⟨x1, x2, x3⟩ := h4 a ha
  exact ⟨va_X.moved hW.alike (x1.kept (hS.2.1 _ x2 x3)), Nat.lt_of_lt_of_le x2 hS.1, x3⟩
/-- a body of the method M, entered in the state s -/
def m_bd (D : va_G) (cA : Nat → Nat) (b : Nat) (ex : Nat → Nat) (sc : mS) (M : mM) (p : Program) (s : State) (m : MethodId) (args : Array Value) (meth : Method) (c : Code) : Prop :=
  p.tables.exec = Jvm.exec ∧ c.code = m_Mb M ∧ meth.sig.returnType = m_Mr M ∧ c.maxLocals = m_Ml M ∧ (∀ w ∈ m_tbl, w.before args s = true) ∧ s.vm.findClass (m_My M).cls = some m.cls ∧ meth.name = (m_My M).name ∧ meth.locks = false ∧ c.exceptionTable.toList = tableOf (m_Mh M) ∧ m_Kn D cA b ex sc s
/-- what a call of a JDK member owes -/
def m_biP (l : Launch) (D : va_G) (cA : Nat → Nat) (b : Nat) (ex : Nat → Nat) (sc : mS) (M : mM) (pc k : Nat) : Prop :=
  ∀ (p : Program) (e : Env) (R : Room) (s : State) (m : MethodId) (args : Array Value) (below : List Frame) (meth : Method) (c : Code) (H : Heap) (locs : List Loc) (cells slots : Nat) (Q : State → Prop) (lsC : Array Slot) (st t : List Value) (w w1 : mW),
    m_bd D cA b ex sc M p s m args meth c → lsC.size = m_Ml M → m_H b ex D cA w H → va_S (m_A b) s.heap H locs → (∀ v ∈ st, m_ok w v) → m_bi k st w = some (t, w1) →
    cells + (m_n w1 - m_n w) ≤ R.cells → slots + (m_s w1 - m_s w) ≤ R.slots → 12 ≤ R.frames → 400 ≤ R.locals →
    (∀ (H1 : Heap) (locs1 : List Loc), m_H b ex D cA w1 H1 → va_S (m_A b) s.heap H1 locs1 → W p l e R s m args below meth c H1 locs1 (cells + (m_n w1 - m_n w)) (slots + (m_s w1 - m_s w)) Q (F0 m (pc + 3) lsC (t.map (m_cv b ex)))) →
    W p l e R s m args below meth c H locs cells slots Q (F0 m pc lsC (st.map (m_cv b ex)))
def m_kL (own : String) (idx : Nat) (x : List Nat) (wide : Nat) : Prop := match x with
  | 0 :: n :: _ => wide < 2 ∧ Cond.constant own idx (Int32.ofNat n) ∈ m_tbl
  | 1 :: a :: _ => wide < 2 ∧ ∃ (k : Nat) (q : String × Nat × String × List Nat), m_strs[k]? = some q ∧ q.1 = own ∧ q.2.1 = idx ∧ a = 32 * (k + 1) + 25
  | 2 :: n :: _ => wide = 2 ∧ Cond.constantLong own idx (Int64.ofNat n) ∈ m_tbl
  | _ => False
def m_kO (own : String) (idx : Nat) : Prop := Cond.methodLink own idx Lib.objectInit ∈ m_tbl ∧ Cond.instanceMethod Lib.objectInit ∈ m_tbl ∧ Cond.code Lib.objectInit ⟨#[0xb1]⟩ 1 none ∈ m_tbl
/-- what a row of a method's table must meet, calls and throws apart -/
def m_lnk (l : Launch) (D : va_G) (cA : Nat → Nat) (b : Nat) (ex : Nat → Nat) (sc : mS) (M : mM) (pc : Nat) (ins : Instr) (x : List Nat) : Prop := match ins with
  | .getfield idx => m_kF (m_My M).cls idx (x.getD 0 0) (x.getD 1 0) (x.getD 2 0)
  | .putfield idx => m_kF (m_My M).cls idx (x.getD 0 0) (x.getD 1 0) (x.getD 2 0) ∧ ∀ q, vwCl[x.getD 0 0]? = some q → (q.2.1 (x.getD 1 0)).2.2.2 = false ∨ ((q.2.1 (x.getD 1 0)).2.2.2 = true ∧ (m_My M).name = "<init>" ∧ (q.2.1 (x.getD 1 0)).1 = (m_My M).cls)
  | .new idx => x.getD 0 0 = 0 → m_kN (m_My M).cls idx (x.getD 1 0)
  | .ldc idx => m_kL (m_My M).cls idx x 0
  | .ldc_w idx => m_kL (m_My M).cls idx x 1
  | .ldc2_w idx => m_kL (m_My M).cls idx x 2
  | .invokevirtual _ => ∀ k, x = [k] → m_biP l D cA b ex sc M pc k
  | .invokestatic _ => ∀ k, x = [k] → m_biP l D cA b ex sc M pc k
  | .invokespecial idx => x = [] → m_kO (m_My M).cls idx
  | _ => True
def m_row (l : Launch) (D : va_G) (cA : Nat → Nat) (b : Nat) (ex : Nat → Nat) (sc : mS) (M : mM) : Prop := ∀ (pc : Nat) (ins : Instr) (len : Nat) (x : List Nat), m_Mc M pc = some (ins, len, x) → decode (m_Mb M) pc = .ok (ins, len) ∧ (m_sw ins = false → len = m_len ins) ∧ m_lnk l D cA b ex sc M pc ins x
theorem m_op_sw {ins : Instr} {st t : List Value} (h : m_op ins st = some t) : m_sw ins = false := by
  cases ins <;> first | rfl | cases h
theorem m_lo_sw {ins : Instr} {ls st : List Value} {t : List Value × List Value} (h : m_lo ins ls st = some t) : m_sw ins = false := by
  cases ins <;> first | rfl | cases h
theorem m_as_n {ins : Instr} {st t : List Value} {w w1 : mW} (h : m_as ins st w = some (t, w1)) : m_n w1 = m_n w ∧ m_s w1 = m_s w := by
  unfold m_as at h
  split at h
  · split at h
    · obtain ⟨h1, -⟩ := m_pw_s h
      unfold m_xi at h1
      split at h1
      · split at h1
        · cases h1
        · cases h1; exact ⟨rfl, rfl⟩
      · cases h1
    · cases h
  · split at h
    · obtain ⟨h1, -⟩ := m_pw_s h
      unfold m_xb at h1
      split at h1
      · split at h1
        · cases h1
        · cases h1; exact ⟨rfl, rfl⟩
      · split at h1
        · split at h1
          · cases h1
          · cases h1; exact ⟨rfl, rfl⟩
        · cases h1
    · cases h
  · split at h
    · obtain ⟨h1, -⟩ := m_pw_s h
      unfold m_xj at h1
      split at h1
      · split at h1
        · cases h1
        · cases h1; exact ⟨rfl, rfl⟩
      · cases h1
    · cases h
  · cases h
theorem m_nw_n {x : List Nat} {st t : List Value} {w w1 : mW} (h : m_nw x st w = some (t, w1)) : m_n w1 = m_n w + 1 := by
  unfold m_nw at h
  split at h
  · split at h
    · cases h; rfl
    · cases h
  · cases h
section MST
variable {p : Program} {l : Launch} {e : Env} {R : Room} {s : State} {m : MethodId} {args : Array Value} {below : List Frame} {meth : Method} {c : Code} {H : Heap} {locs : List Loc} {Q : State → Prop} {pc : Nat} {lsC : Array Slot}
variable {b : Nat} {ex : Nat → Nat} {D : va_G} {cA : Nat → Nat} {sc : mS} {M : mM} {w : mW} {cells slots : Nat}
theorem m_ldc_s (hexec : p.tables.exec = Jvm.exec) {own tx : String} {idx a : Nat} {st : List Value} (hown : s.vm.findClass own = some m.cls) (hstr : vk_R own idx tx a s) (hd : decode c.code pc = .ok (.ldc idx, 2))
    (k : W p l e R s m args below meth c H locs cells slots Q (F0 m (pc + 2) lsC (.ref a :: st))) : W p l e R s m args below meth c H locs cells slots Q (F0 m pc lsC st) := by
  intro T hT X
  obtain ⟨t, a1, b1⟩ := k T hT X
  exact ⟨t, X.ldcString hexec (own := own) (text := tx) (index := idx) (a := a) hown hstr.1 hstr.2 (g := F0 m pc lsC st) rfl hd _ a1, b1⟩
theorem m_ldc_sw (hexec : p.tables.exec = Jvm.exec) {own tx : String} {idx a : Nat} {st : List Value} (hown : s.vm.findClass own = some m.cls) (hstr : vk_R own idx tx a s) (hd : decode c.code pc = .ok (.ldc_w idx, 3))
    (k : W p l e R s m args below meth c H locs cells slots Q (F0 m (pc + 3) lsC (.ref a :: st))) : W p l e R s m args below meth c H locs cells slots Q (F0 m pc lsC st) := by
  intro T hT X
  obtain ⟨t, a1, b1⟩ := k T hT X
  have g1 : (Cond.stringRef own idx tx).before args s = true := hstr.1
  have g2 : (Term.string own idx).eval args s none [] s = some (.ref a) := hstr.2
  obtain ⟨kc, cf, i, a', hk, hcf, hcp, -, hr, hev'⟩ := Cond.stringRef_spec hown g1
  cases g2.symm.trans hev'
  obtain ⟨k', hk', he⟩ := X.warmed.alike.2.2 _ _ hk
  have hr' : k'.resolved[idx]? = some (some (.string a)) := by
    rcases X.warmed.entry hk hk' idx with h | ⟨h, -⟩
    · rw [h]; exact hr
    · rw [hr] at h; cases h
  refine ⟨t, ?_, b1⟩
  jvm_step X.here [hexec, hd, ldc_w.wp_string (e := e) (s := T) (f := F0 m pc lsC st) X.here.top hk' (by rw [he]; exact hcf) hcp hr']
  exact a1
theorem m_ldk_W {st t : List Value} {idx : Nat} {x : List Nat} (hbd : m_bd D cA b ex sc M p s m args meth c) (h : m_ldk x st = some t) (hlk : m_kL (m_My M).cls idx x 0) (hd : decode (m_Mb M) pc = .ok (.ldc idx, 2))
    (k : W p l e R s m args below meth c H locs cells slots Q (F0 m (pc + 2) lsC (t.map (m_cv b ex)))) : W p l e R s m args below meth c H locs cells slots Q (F0 m pc lsC (st.map (m_cv b ex))) := by
  obtain ⟨hx, hb, hr, hml, hts, hown, hnm, hlocks, htab, hKn⟩ := hbd
  unfold m_ldk at h
  split at h
  · cases h; exact lv_ldc hx hb hown (hts _ hlk.2) hd k
  · split at h
    · rename_i hq
      cases h
      obtain ⟨-, kk, q, h1, h2, h3, h4⟩ := hlk
      have hs := hKn.2.2.2.2.1.1 kk q h1
      rw [h2, h3, ← h4] at hs
      refine m_ldc_s hx hown hs (by rw [hb]; exact hd) ?_
      rw [List.map_cons, m_cv_ref (by omega), m_ad] at k
      rw [if_pos (Or.inr hq)] at k
      exact k
    · cases h
  · exact absurd hlk.1 (by omega)
  · cases h
theorem m_ldkw_W {st t : List Value} {idx : Nat} {x : List Nat} (hbd : m_bd D cA b ex sc M p s m args meth c) (h : m_ldk x st = some t) (hlk : m_kL (m_My M).cls idx x 1) (hd : decode (m_Mb M) pc = .ok (.ldc_w idx, 3))
    (k : W p l e R s m args below meth c H locs cells slots Q (F0 m (pc + 3) lsC (t.map (m_cv b ex)))) : W p l e R s m args below meth c H locs cells slots Q (F0 m pc lsC (st.map (m_cv b ex))) := by
  obtain ⟨hx, hb, hr, hml, hts, hown, hnm, hlocks, htab, hKn⟩ := hbd
  unfold m_ldk at h
  split at h
  · cases h; exact lv_ldcw hx hb hown (hts _ hlk.2) hd k
  · split at h
    · rename_i hq
      cases h
      obtain ⟨-, kk, q, h1, h2, h3, h4⟩ := hlk
      have hs := hKn.2.2.2.2.1.1 kk q h1
      rw [h2, h3, ← h4] at hs
      refine m_ldc_sw hx hown hs (by rw [hb]; exact hd) ?_
      rw [List.map_cons, m_cv_ref (by omega), m_ad] at k
      rw [if_pos (Or.inr hq)] at k
      exact k
    · cases h
  · exact absurd hlk.1 (by omega)
  · cases h
theorem m_ldk2_W {st t : List Value} {idx : Nat} {x : List Nat} (hbd : m_bd D cA b ex sc M p s m args meth c) (h : m_ldk x st = some t) (hlk : m_kL (m_My M).cls idx x 2) (hd : decode (m_Mb M) pc = .ok (.ldc2_w idx, 3))
    (k : W p l e R s m args below meth c H locs cells slots Q (F0 m (pc + 3) lsC (t.map (m_cv b ex)))) : W p l e R s m args below meth c H locs cells slots Q (F0 m pc lsC (st.map (m_cv b ex))) := by
  obtain ⟨hx, hb, hr, hml, hts, hown, hnm, hlocks, htab, hKn⟩ := hbd
  unfold m_ldk at h
  split at h
  · exact absurd hlk.1 (by omega)
  · exact absurd hlk.1 (by omega)
  · cases h; exact lv_ldc2 hx hb hown (hts _ hlk.2) hd k
  · cases h
set_option maxHeartbeats 2000000 in
/-- one step that stays in the method -/
theorem m_step_W {pc1 : Nat} {ls ls1 st st1 : List Value} {w1 : mW} (hbd : m_bd D cA b ex sc M p s m args meth c) (hrow : m_row l D cA b ex sc M) (hlm : ls.length = m_Ml M) (hi : m_inv w ls st) (hL : m_L b ex ls lsC) (hH : m_H b ex D cA w H) (hS : va_S (m_A b) s.heap H locs)
    (h : m_step sc M pc ls st w = some (.inl (pc1, ls1, st1, w1))) (hR1 : cells + (m_n w1 - m_n w) ≤ R.cells) (hR2 : slots + (m_s w1 - m_s w) ≤ R.slots) (hR3 : 12 ≤ R.frames) (hR4 : 400 ≤ R.locals)
    (k : ∀ (lsC1 : Array Slot) (H1 : Heap) (locs1 : List Loc), m_L b ex ls1 lsC1 → m_H b ex D cA w1 H1 → va_S (m_A b) s.heap H1 locs1 → W p l e R s m args below meth c H1 locs1 (cells + (m_n w1 - m_n w)) (slots + (m_s w1 - m_s w)) Q (F0 m pc1 lsC1 (st1.map (m_cv b ex)))) :
    W p l e R s m args below meth c H locs cells slots Q (F0 m pc lsC (st.map (m_cv b ex))) := by
  have hbd0 := hbd
  obtain ⟨hx, hb, hr, hml, hts, hown, hnm, hlocks, htab, hKn⟩ := hbd
  have hK := hKn.1
  have hA : ∀ q, b ≤ q → m_A b q := fun q hq => hq
  have hls : lsC.size = m_Ml M := (m_L_size hL).trans hlm
  have same : ∀ {w1 : mW}, w1 = w → m_n w1 - m_n w = 0 ∧ m_s w1 - m_s w = 0 := fun q => by subst q; exact ⟨Nat.sub_self _, Nat.sub_self _⟩
  unfold m_step at h
  split at h
  · cases h
  · rename_i ins len x hc
    obtain ⟨hd, hlen, hlk⟩ := hrow _ _ _ _ hc
    split at h
    · obtain ⟨h1, rfl, rfl, rfl⟩ := m_nx_s h
      have hl0 : len = 3 := hlen rfl
      subst hl0
      rw [Nat.sub_self, Nat.sub_self] at k
      exact m_gf_W hx hb hts hown hK hH hi.2.2 h1 hlk hd (k _ _ _ hL hH hS)
    · obtain ⟨h1, rfl, rfl⟩ := m_nw2_s h
      have hl0 : len = 3 := hlen rfl
      subst hl0
      obtain ⟨ci, kf, tc, y, v, a, -, -, -, hw⟩ := m_pf_s h1
      obtain ⟨e1, e2, -⟩ := m_wr_s hw
      rw [e1, e2, Nat.sub_self, Nat.sub_self] at k
      exact m_pf_W hx hb hts hown hK hH hA hS hi.2.2 h1 hlk.1 (fun q hq => by rw [hnm]; exact hlk.2 q hq) hd (fun H1 locs1 a1 a2 => k _ _ _ hL a1 a2)
    · rcases m_nt_s h with ⟨ci, y, t, w', rfl, hw, hq⟩ | ⟨e, y, -, -, hq⟩
      · cases hq
        have hl0 : len = 3 := hlen rfl
        subst hl0
        have hn1 : m_n w1 - m_n w = 1 := by
          rw [m_nw_n hw]; omega
        rw [hn1] at k hR1
        exact m_nw_W hx hb hts hown hK hH hS hw (hlk rfl) hR1 hR2 hd (fun H1 a1 a2 => k _ _ _ hL a1 a2)
      · cases hq
    · rename_i ty
      obtain ⟨h1, rfl, rfl⟩ := m_nw2_s h
      have hl0 : len = 2 := hlen rfl
      subst hl0
      have hn1 : m_n w1 - m_n w = 1 := by
        unfold m_na at h1
        split at h1
        · split at h1
          · cases h1
          · cases h1
            rw [m_mk_n]; omega
        · cases h1
      rw [hn1] at k hR1
      exact m_na_W hx hb hts hK hH hS h1 hR1 hR2 hd (fun H1 a1 a2 => k _ _ _ hL a1 a2)
    · obtain ⟨h1, rfl, rfl, rfl⟩ := m_nx_s h
      have hl0 : len = 1 := hlen rfl
      subst hl0
      rw [Nat.sub_self, Nat.sub_self] at k
      exact m_al_W hx hb hK hH hS hKn.2.2.2.1 hi.2.2 h1 hd (k _ _ _ hL hH hS)
    · obtain ⟨h1, rfl, rfl, rfl⟩ := m_nx_s h
      have hl0 : len = 1 := hlen rfl
      subst hl0
      rw [Nat.sub_self, Nat.sub_self] at k
      exact m_al_W hx hb hK hH hS hKn.2.2.2.1 hi.2.2 h1 hd (k _ _ _ hL hH hS)
    · obtain ⟨h1, rfl, rfl, rfl⟩ := m_nx_s h
      have hl0 : len = 1 := hlen rfl
      subst hl0
      rw [Nat.sub_self, Nat.sub_self] at k
      exact m_al_W hx hb hK hH hS hKn.2.2.2.1 hi.2.2 h1 hd (k _ _ _ hL hH hS)
    · obtain ⟨h1, rfl, rfl, rfl⟩ := m_nx_s h
      have hl0 : len = 1 := hlen rfl
      subst hl0
      rw [Nat.sub_self, Nat.sub_self] at k
      exact m_al_W hx hb hK hH hS hKn.2.2.2.1 hi.2.2 h1 hd (k _ _ _ hL hH hS)
    · obtain ⟨h1, rfl, rfl⟩ := m_nw2_s h
      have hl0 : len = 1 := hlen rfl
      subst hl0
      have hz := m_as_n h1
      rw [hz.1, hz.2, Nat.sub_self, Nat.sub_self] at k
      exact m_as_W hx hb hK hH hA hS hi.2.2 h1 hd (fun H1 locs1 a1 a2 => k _ _ _ hL a1 a2)
    · obtain ⟨h1, rfl, rfl⟩ := m_nw2_s h
      have hl0 : len = 1 := hlen rfl
      subst hl0
      have hz := m_as_n h1
      rw [hz.1, hz.2, Nat.sub_self, Nat.sub_self] at k
      exact m_as_W hx hb hK hH hA hS hi.2.2 h1 hd (fun H1 locs1 a1 a2 => k _ _ _ hL a1 a2)
    · obtain ⟨h1, rfl, rfl⟩ := m_nw2_s h
      have hl0 : len = 1 := hlen rfl
      subst hl0
      have hz := m_as_n h1
      rw [hz.1, hz.2, Nat.sub_self, Nat.sub_self] at k
      exact m_as_W hx hb hK hH hA hS hi.2.2 h1 hd (fun H1 locs1 a1 a2 => k _ _ _ hL a1 a2)
    · obtain ⟨h1, rfl, rfl, rfl⟩ := m_nx_s h
      have hl0 : len = 2 := hlen rfl
      subst hl0
      rw [Nat.sub_self, Nat.sub_self] at k
      exact m_ldk_W hbd0 h1 hlk hd (k _ _ _ hL hH hS)
    · obtain ⟨h1, rfl, rfl, rfl⟩ := m_nx_s h
      have hl0 : len = 3 := hlen rfl
      subst hl0
      rw [Nat.sub_self, Nat.sub_self] at k
      exact m_ldkw_W hbd0 h1 hlk hd (k _ _ _ hL hH hS)
    · obtain ⟨h1, rfl, rfl, rfl⟩ := m_nx_s h
      have hl0 : len = 3 := hlen rfl
      subst hl0
      rw [Nat.sub_self, Nat.sub_self] at k
      exact m_ldk2_W hbd0 h1 hlk hd (k _ _ _ hL hH hS)
    · split at h
      · obtain ⟨h1, rfl, rfl⟩ := m_nw2_s h
        exact hlk _ rfl p e R s m args below meth c H locs cells slots Q lsC st st1 w w1 hbd0 hls hH hS hi.2.2 h1 hR1 hR2 hR3 hR4 (fun H1 locs1 a1 a2 => k _ _ _ hL a1 a2)
      · obtain ⟨mi, na, kd, y, -, -, -, -, q, -⟩ := m_cl_s h
        cases q
    · split at h
      · obtain ⟨h1, rfl, rfl⟩ := m_nw2_s h
        exact hlk _ rfl p e R s m args below meth c H locs cells slots Q lsC st st1 w w1 hbd0 hls hH hS hi.2.2 h1 hR1 hR2 hR3 hR4 (fun H1 locs1 a1 a2 => k _ _ _ hL a1 a2)
      · obtain ⟨mi, na, kd, y, -, -, -, -, q, -⟩ := m_cl_s h
        cases q
    · split at h
      · obtain ⟨a, r, rfl, h0, hcs, q⟩ := m_obj_s h
        cases q
        have hl0 : len = 3 := hlen rfl
        subst hl0
        rw [Nat.sub_self, Nat.sub_self] at k
        have hko := hlk rfl
        rw [List.map_cons, m_cv_ref h0]
        have hcat : ((st1.map (m_cv b ex)).map (fun v => v.category)).sum = (st1.map (fun v => v.category)).sum := by
          rw [List.map_map]
          congr 1
          exact List.map_congr_left (fun v _ => m_cv_cat b ex v)
        refine W.objInit hx hb hown (hts _ hko.1) (hts _ hko.2.1) (hts _ hko.2.2) rfl (hls.trans hml.symm) rfl hd (by omega) ?_ (k _ _ _ hL hH hS)
        rw [hcat]
        show 2 * 0 + _ + 12 ≤ _
        omega
      · obtain ⟨mi, na, kd, y, -, -, -, -, q, -⟩ := m_cl_s h
        cases q
    · rcases m_rt_s h with ⟨-, -, -, q⟩ | ⟨t, x, -, -, -, -, q⟩ | ⟨x, -, -, -, q⟩ <;> cases q
    · rcases m_rt_s h with ⟨-, -, -, q⟩ | ⟨t, x, -, -, -, -, q⟩ | ⟨x, -, -, -, q⟩ <;> cases q
    · rcases m_rt_s h with ⟨-, -, -, q⟩ | ⟨t, x, -, -, -, -, q⟩ | ⟨x, -, -, -, q⟩ <;> cases q
    · unfold m_simple at h
      split at h
      · rename_i u hu
        cases h
        have hl0 : len = m_len ins := hlen (m_op_sw hu)
        subst hl0
        rw [Nat.sub_self, Nat.sub_self] at k
        exact m_op_W b ex hx hb hu hd (k _ _ _ hL hH hS)
      · split at h
        · rename_i u v hu
          cases h
          have hl0 : len = m_len ins := hlen (m_lo_sw hu)
          subst hl0
          rw [Nat.sub_self, Nat.sub_self] at k
          exact m_lo_W b ex hx hb hL hu hd (fun l1 hl1 => k _ _ _ hl1 hH hS)
        · split at h
          · rename_i u v hu
            cases h
            rw [Nat.sub_self, Nat.sub_self] at k
            exact m_br_W b ex hx hb hu hd hlen (k _ _ _ hL hH hS)
          · cases h
end MST
