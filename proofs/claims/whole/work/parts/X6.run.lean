/-! THE CLAIM OUT OF ONE WALK OF THE LAW'S BODY. Your part is whole_start (and what it stands on); all else here is the same for every law, but numbers. -/
def R_law : String := "FerryHallLaw"
def lw_P (b : Addr) (xs : List Int32) (args : Array Value) (s : State) : Prop := args = #[.ref b] ∧ s.IntsAt b xs ∧ xs.length ≤ 3072 ∧ (Jvm.Cond.and given_1 narrow_1).before args s = true
def lw_Q (_ : Array Value) (s : State) (o : Outcome) (t : State) : Prop := o = .returned (some (.int 1)) ∧ Framed s o t [] 601024 7293034
def lw_Z (below : List Frame) (a : Array Value) (s : State) : State → Prop := fun t => ∃ o, t.status = .running ∧ Ended t below o ∧ lw_Q a s o t
/-- the law's own end, with 1 on the stack, nothing written that was there before, its room as the claim has it -/
theorem lw_ret {p : Program} {l : Launch} {e : Env} {s : State} {m : MethodId} {below : List Frame} {meth : Method} {c : Code} {b : Nat} (hx : p.tables.exec = Jvm.exec) (hb : c.code = code) (hr : meth.sig.returnType = ret) (hlocks : meth.locks = false) {pc : Nat} {H : Heap} {ls : Array Slot} (hdg : decode code pc = .ok (.ireturn, 1)) : W p l e room_1 s m #[Value.ref b] below meth c H [] 601024 7293034 (lw_Z below #[Value.ref b] s) (F0 m pc ls [.int 1]) := by
  intro T hT X
  obtain ⟨fs, hret, hrun, hended, hW, hframe⟩ := X.leave (v := some (.int 1)) (hlocks := hlocks) (fun h => by rw [hr] at h; cases h)
  have hmeth' : T.vm.method? m = some meth := X.method'
  refine ⟨T.setFrames fs, ?_, .returned (some (.int 1)), hrun, hended, rfl, ⟨_, rfl⟩, hW, hframe⟩
  jvm_step X.here [X.here.top, hx, hb, hdg, hmeth', hr, ret, narrow_b1]
  (try refine ⟨rfl, ?_⟩); (try refine ⟨rfl, ?_⟩)
  first | (intro acts; rw [hret _ acts rfl rfl rfl]) | rw [hret _ _ rfl rfl rfl]
  exact Steps.refl _
/-- what holds at the law's entry: the machine, the code, the tables' words (any of lw_tbl by 'hts w (by decide +kernel)'), the script of L ints xs at the cell b, what the Statement gives of the start (any of its parts by flat_of_before) -/
def lw_At (p : Program) (s : State) (m : MethodId) (meth : Method) (c : Code) (b L : Nat) (xs : Nat → Int32) : Prop :=
  p.tables.exec = Jvm.exec ∧ c.code = code ∧ meth.sig.returnType = ret ∧ c.maxLocals = 7 ∧ s.vm.findClass R_law = some m.cls ∧ (∀ w ∈ lw_tbl, w.before #[Value.ref b] s = true) ∧ va_X b L xs s s.heap ∧ b < s.heap.size ∧ meth.locks = false ∧ (Jvm.Cond.and given_1 narrow_1).before #[Value.ref b] s = true
/-- a run of the small machine from the entry is a run of the machine, with the law's own end -/
theorem whole_run {p : Program} {e : Env} {s : State} {m : MethodId} {below : List Frame} {meth : Method} {c : Code} (l : Launch) (hl : l.stackTraces = false) {b L f : Nat} {xs : Nat → Int32} {w0 w1 : mW} (C0 : lw_At p s m meth c b L xs) (hnm : meth.name = "law") (htab : c.exceptionTable.toList = [])
    (hrun : m_run m_G (L, xs) f 110 mt_283 0 (m_en [.ref 56] 7) [] w0 = some (.inl (some (.int 1)), w1)) (hc0 : m_n w0 = 0) (hs0 : m_s w0 = 0) (hV : m_V w0) (hn : m_n w1 ≤ 705) (hs : m_s w1 ≤ 300000) :
    W p l e room_1 s m #[Value.ref b] below meth c s.heap [] 0 0 (lw_Z below #[Value.ref b] s) (entryFrame m ([Value.ref b] : List Value).toArray 7) := by
  obtain ⟨hx, hb, hr, hml, hown, hts, hX, hbl, hlocks, hgv⟩ := C0
  intro T hT X
  have Y := vx_rebase X (R' := m_rm 110 (m_n w1 - m_n w0) (m_s w1 - m_s w0)) (by show 110 + 12 ≤ 2048; omega) (by show 64 * 110 + 400 ≤ 84000; omega) (by show 0 + (m_n w1 - m_n w0) ≤ 601024; omega) (by show 0 + (m_s w1 - m_s w0) ≤ 7293034; omega)
  obtain ⟨s', hA⟩ : ∃ z, z = (T.setVm s.vm).setFrames (.invoking m #[Value.ref b] :: below) := ⟨_, rfl⟩
  rw [← hA] at Y
  have hvm : s'.vm = s.vm := by rw [hA]; rfl
  have hhp : s'.heap = s.heap := by rw [hA]; exact hT
  have hW0 : s.WarmedH s'.vm := by rw [hvm]; exact State.WarmedH.refl s
  obtain ⟨D, cA, ex, hKn0, hex⟩ := m_Kn_of (L := L) (xs := xs) hts (flat_of_before _ hgv) hX hbl
  have hKn := m_Kn_to (U := s') (locs := []) hW0 (by rw [hhp]; exact va_S.rf) hKn0
  have hcv : m_cv s.heap.size ex (.ref 56) = .ref b := by rw [m_cv_ref (by decide), m_ad_sc (by decide), hex 56 (by decide)]
  have hbd : m_bd D cA s.heap.size ex (L, xs) mt_283 p s' m #[Value.ref b] meth c := ⟨hx, hb, hr, hml, fun w hw => vx_ot_at hW0 hvm.symm (by unfold vx_ot; rw [m_tbl_good w hw, Bool.or_true]) (hts w (m_tbl_in w hw)), by rw [hvm]; exact hown, hnm, hlocks, htab, hKn⟩
  have hH : m_H s.heap.size ex D cA w0 s'.heap := ⟨by rw [hhp, hc0]; rfl, fun k hk => by omega, fun k hk => by omega⟩
  have hinv : m_inv w0 (m_en [.ref 56] 7) [] := ⟨hV, m_en_ok (fun v hv => by rw [List.mem_singleton.mp hv]; exact Or.inr (Or.inl (Or.inl rfl))) _, fun v hv => nomatch hv⟩
  have hLc := m_L_entry (b := s.heap.size) (ex := ex) (args := [.ref 56]) (n := 7) (fun v hv => by rw [List.mem_singleton.mp hv]; rfl) (by decide)
  rw [List.map_cons, hcv, List.map_nil] at hLc
  have k := m_sim (m_all_good hl) f 110 mt_283 0 (m_en [.ref 56] 7) [] w0 w1 _ (m_all_good hl 283 mt_283 rfl) hrun hinv (m_en_len (by decide)) p e s' m #[Value.ref b] below meth c s'.heap [] _ w0 hbd hLc hH va_S.rf (m_le.rf w0)
  rw [Nat.sub_self, Nat.sub_self] at k
  obtain ⟨t, a1, o, b1, b2, b3⟩ := k T (by rw [hhp]; exact hT) Y
  rcases b3 with ⟨⟨⟨v, hv, ho⟩, -, -⟩, Lc, hend, hfree⟩ | ⟨q, -, E, ce, Lc, hxc, -⟩
  · cases hv
    obtain ⟨-, hW1, hsame⟩ := hend
    have ho2 : o = .returned (some (.int 1)) := ho
    subst ho2
    refine ⟨t, by rw [lg_entry_eq]; exact a1, .returned (some (.int 1)), b1, b2, rfl, ⟨_, rfl⟩, State.WarmedH.trans hW0 hW1, ?_⟩
    subst hA
    obtain ⟨e1, e2⟩ := hsame
    rw [State.setFrames_setFrames] at e1
    have g2 : (T.setVm s.vm).sameButNew ({ t with vm := s.vm } : State) Lc (m_n w1 - m_n w0) (m_s w1 - m_s w0) := ⟨e1, e2⟩
    have g3 := X.same.trans g2
    rw [List.nil_append] at g3
    exact (g3.weaken (fun y hy hlt => absurd hlt (Nat.not_lt.mpr (hfree y hy))) (Nat.le_refl _) (Nat.le_refl _)).mono (by omega) (by omega)
  · exact absurd hxc (m_XC_no rfl E _ _)
