/-! ===== a throw is caught by the one row of a method's table, whose entry may not be resolved yet (after the library's Steps.caught, which asks it resolved) ===== -/
theorem m_go_link {Q : Handler → Pre} {E : CtlPost} {e : Env} {dd : Bool} {acts : List Action} {s : State} {f : JFrame} {a : Addr} {x : ExceptionTableEntry} {t : List ExceptionTableEntry} {c : ClassId} {cell : Cell} (hx : covers x f.pc = true) (h0 : x.catchType ≠ 0)
    (hl : s.vm.ClassLinks e.platform f.method.cls x.catchType c) (hcell : s.heap[a]? = some cell) (hobj : ∀ k, cell.vm ≠ .statics k)
    (hk : ∃ k, s.vm.classes[cell.cls]? = some k) (hc : ∃ k, s.vm.classes[c]? = some k) (hfit : s.vm.assignable cell.cls c = true) :
    wp (findHandler.go f a (x :: t)) Q E e dd acts s ↔ Q (.found x.handlerPc) dd acts (s.setVm (s.vm.noted f.method.cls x.catchType (.cls c))) := by
  simp only [covers] at hx
  obtain ⟨ha, ht⟩ := (resolveClass_links e.toSetting hl).op (op := VmOp.resolveClass f.method.cls x.catchType) rfl
  have hal : s.vm.Alike (s.vm.noted f.method.cls x.catchType (.cls c)) := (Vm.Alike.refl s.vm).noted _ _ _
  obtain ⟨k1, hk1⟩ := hk
  obtain ⟨k2, hk2⟩ := hc
  obtain ⟨k1', hk1', -⟩ := hal.2.2 _ _ hk1
  obtain ⟨k2', hk2', -⟩ := hal.2.2 _ _ hk2
  have hfit' : (s.vm.noted f.method.cls x.catchType (.cls c)).assignable cell.cls c = true := by rw [hal.assignable]; exact hfit
  simp [findHandler.go, hx, h0, ha, ht, hcell, hobj, hk1', hk2', hfit', VmOp.dirties, VmOp.acts]
theorem m_fr_vm (u : State) (vm' : Vm) (F G : List Frame) : ((u.setFrames F).setVm vm').setFrames G = (u.setVm vm').setFrames G := by
  have h1 : (u.setFrames F).setVm vm' = (u.setVm vm').setFrames F := rfl
  rw [h1, State.setFrames_setFrames]
/-- the unwinding's step into a handler, and the tables that the search leaves -/
theorem m_caught {tb : Tables} {e : Env} {s target : State} {g : JFrame} {c : Code} {below : List Frame} {a : Addr} {meth : Method} (h : At s g.method c below) (hm : s.vm.method? g.method = some meth) (hc : meth.code = some c) {x : ExceptionTableEntry} (htab : c.exceptionTable.toList = [x])
    (hx : covers x g.pc = true) (h0 : x.catchType ≠ 0) {k : ClassId} {cell : Cell} (hl : s.vm.ClassLinks e.platform g.method.cls x.catchType k) (hcell : s.heap[a]? = some cell) (hobj : ∀ k, cell.vm ≠ .statics k)
    (hk : ∃ k, s.vm.classes[cell.cls]? = some k) (hcl : ∃ z, s.vm.classes[k]? = some z) (hfit : s.vm.assignable cell.cls k = true)
    (hrest : Steps tb e below ((s.setVm (s.vm.noted g.method.cls x.catchType (.cls k))).setTop { g with pc := x.handlerPc, stack := [.ref a] }) target) :
    Steps tb e below ((s.setTop g).pushFrame (.throwing a)) target := by
  obtain ⟨hgo, hw⟩ := h.throwing a
  refine Steps.head hgo hw ?_
  have hfind : ∀ (Q : Handler → Pre) (E : CtlPost) (dd : Bool) (acts : List Action), wp (findHandler g a) Q E e dd acts ((s.setTop g).pushFrame (.throwing a)) ↔ Q (.found x.handlerPc) dd acts (((s.setTop g).pushFrame (.throwing a)).setVm (s.vm.noted g.method.cls x.catchType (.cls k))) := by
    intro Q E dd acts
    rw [W.findHandler_eq (s := (s.setTop g).pushFrame (.throwing a)) hm hc, htab]
    exact m_go_link (s := (s.setTop g).pushFrame (.throwing a)) hx h0 hl hcell hobj hk hcl hfit
  obtain ⟨g₀, hg⟩ := Option.isSome_iff_exists.mp h.top
  obtain ⟨r, hr⟩ := State.topJava?_eq_some.mp hg
  have hone : (stepThrowing e ((s.setTop g).pushFrame (.throwing a)) a (.java g :: s.frames.tail)).Is ((((s.setTop g).pushFrame (.throwing a)).setVm (s.vm.noted g.method.cls x.catchType (.cls k))).setFrames (.java { g with pc := x.handlerPc, stack := [.ref a] } :: s.frames.tail)) [] := by
    simp only [stepThrowing, searchFrame, vmDo]
    generalize hr9 : Sem.go _ e false [] ((s.setTop g).pushFrame (.throwing a)) = res
    obtain ⟨as, rfl, ha⟩ := Sem.eq_ok_of hr9 (a := Handler.found x.handlerPc) (s' := ((s.setTop g).pushFrame (.throwing a)).setVm (s.vm.noted g.method.cls x.catchType (.cls k))) (acts' := []) (by simp [hfind _ _ _ _])
    exact ⟨rfl, ha⟩
  rw [stepThread_throwing (frames_entered h.top _), hone.1]
  have hr' : (s.setVm (s.vm.noted g.method.cls x.catchType (.cls k))).frames = .java g₀ :: r := hr
  rw [State.setTop_of_frames _ hr'] at hrest
  rw [hr, List.tail_cons, State.pushFrame, m_fr_vm, State.setTop_of_frames _ hr, m_fr_vm]
  exact hrest
section MTC
variable {p : Program} {l : Launch} {e : Env} {R : Room} {s : State} {m : MethodId} {args : Array Value} {below : List Frame} {meth : Method} {c : Code} {H : Heap} {locs : List Loc} {cells slots : Nat} {Q : State → Prop} {ls : Array Slot} {rest : List Value} {pc : Nat}
theorem m_catch {own E : String} {ce : Cell} {q : Addr} {x : ExceptionTableEntry} (hown : s.vm.findClass own = some m.cls) (htab : c.exceptionTable.toList = [x]) (hx : covers x pc = true) (h0 : x.catchType ≠ 0)
    (hlink : (Cond.classLink own x.catchType E).before args s = true) (hcast : (Cond.castable E E).before args s = true) (hcell : H[q]? = some ce) (hv : ce.vm = .none) (hcl : s.vm.findClass E = some ce.cls)
    (kk : W p l e R s m args below meth c H locs cells slots Q (F0 m x.handlerPc ls [.ref q])) : vx_W p l e R s m args below meth c H locs cells slots Q (F0 m pc ls rest) q := by
  intro T hT X
  have hpl : e.platform.magicAccessors = ({} : Platform).magicAccessors := by rw [X.admits.platform]
  obtain ⟨c3, c4, hc3, hc4, hasg⟩ := Cond.castable_spec hcast
  cases Option.some.inj (hc3.symm.trans hcl)
  cases Option.some.inj (hc4.symm.trans hcl)
  obtain ⟨c5, hc5, hcl5⟩ := Cond.classLink_spec hown hlink e.platform hpl
  cases Option.some.inj (hc5.symm.trans hcl)
  obtain ⟨dk, _, _, kt, hd, _, _, _, _, hkt, _, hopen⟩ := hcl5.here
  have hcl₀ := X.warmed.classLinks hcl5
  have hW' : s.WarmedH (T.vm.noted m.cls x.catchType (.cls ce.cls)) := X.warmed.noted hd hopen (State.rightAt_cls hcl5)
  have hal := X.warmed.alike
  obtain ⟨kt', hkt', -⟩ := hal.2.2 _ _ hkt
  have hfit' : T.vm.assignable ce.cls ce.cls = true := by rw [hal.assignable]; exact hasg
  obtain ⟨t, a1, b1⟩ := kk (T.setVm (T.vm.noted m.cls x.catchType (.cls ce.cls))) hT (X.noted hW')
  refine ⟨t, ?_, b1⟩
  exact m_caught (g := F0 m pc ls rest) X.here X.method' X.code htab hx h0 (k := ce.cls) (cell := ce) hcl₀ (by rw [hT]; exact hcell) (VmData.ne_statics_of (by rw [hv]; rfl)) ⟨kt', hkt'⟩ ⟨kt', hkt'⟩ hfit' a1
end MTC
theorem m_L_st1n {b : Nat} {ex : Nat → Nat} {ls : List Value} {lsC : Array Slot} {lv : List (Nat × Value)} {i x : Nat} (h2 : ∀ (i : Nat) (v : Value), ls[i]? = some v → v ≠ .null → (i, m_cv b ex v) ∈ lv)
    (h : lv_has lsC ls.length ((i, .ref x) :: lv.filter (fun q => !(q.1 == i) && !(q.1 + 1 == i && q.2.category == 2)))) : m_L b ex (m_st1 ls i .null) lsC := by
  refine ⟨_, by rw [m_st1_len]; exact h, fun j u hj hu => ?_⟩
  rcases m_st1_get hj hu with ⟨rfl, rfl⟩ | ⟨q1, q2, q3⟩
  · exact absurd rfl hu
  · refine List.mem_cons_of_mem _ (List.mem_filter.mpr ⟨h2 j u q2 hu, ?_⟩)
    have e1 : (j == i) = false := by simpa using q1
    by_cases hs : j + 1 = i
    · have e2 : ((m_cv b ex u).category == 2) = false := by rw [m_cv_cat]; simpa using q3 hs
      simp [e1, e2]
    · have e2 : (j + 1 == i) = false := by simpa using hs
      simp [e1, e2]
