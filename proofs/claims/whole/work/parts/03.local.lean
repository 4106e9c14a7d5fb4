/-! locals: a list of values, .null where nothing is known -/
def m_kill (ls : List Value) (i : Nat) : List Value := match i with
  | 0 => ls
  | j + 1 => match ls[j]? with
    | some v => if v.category = 2 then ls.set j .null else ls
    | none => ls
def m_st1 (ls : List Value) (i : Nat) (v : Value) : List Value := (m_kill ls i).set i v
def m_st2 (ls : List Value) (i : Nat) (v : Value) : List Value := ((m_kill ls i).set i v).set (i + 1) .null
def m_L (b : Nat) (ex : Nat → Nat) (ls : List Value) (lsC : Array Slot) : Prop := ∃ lv : List (Nat × Value), lv_has lsC ls.length lv ∧ ∀ (i : Nat) (v : Value), ls[i]? = some v → v ≠ .null → (i, m_cv b ex v) ∈ lv
theorem m_kill_succ (ls : List Value) (j : Nat) : m_kill ls (j + 1) = match ls[j]? with
    | some v => if v.category = 2 then ls.set j .null else ls
    | none => ls := rfl
theorem m_kill_len (ls : List Value) (i : Nat) : (m_kill ls i).length = ls.length := by
  cases i with
  | zero => rfl
  | succ j =>
    rw [m_kill_succ]
    split
    · split
      · simp
      · rfl
    · rfl
theorem m_kill_get {ls : List Value} {i j : Nat} {u : Value} (h : (m_kill ls i)[j]? = some u) (hu : u ≠ .null) : ls[j]? = some u ∧ (j + 1 = i → ¬ u.category = 2) := by
  cases i with
  | zero => exact ⟨h, fun q => by omega⟩
  | succ i =>
    rw [m_kill_succ] at h
    split at h
    · rename_i v hv
      split at h
      · by_cases hj : j = i
        · subst hj
          have hl : j < ls.length := (List.getElem?_eq_some_iff.mp hv).1
          rw [List.getElem?_set_self hl] at h
          cases h
          exact absurd rfl hu
        · rw [List.getElem?_set_ne (fun q => hj q.symm)] at h
          exact ⟨h, fun q => by omega⟩
      · rename_i hc
        refine ⟨h, fun q => ?_⟩
        have : j = i := by omega
        subst this
        rw [hv] at h
        cases h
        exact hc
    · rename_i hn
      refine ⟨h, fun q => ?_⟩
      have : j = i := by omega
      subst this
      rw [hn] at h
      cases h
theorem m_st1_len (ls : List Value) (i : Nat) (v : Value) : (m_st1 ls i v).length = ls.length := by simp [m_st1, m_kill_len]
theorem m_st2_len (ls : List Value) (i : Nat) (v : Value) : (m_st2 ls i v).length = ls.length := by simp [m_st2, m_kill_len]
theorem m_st1_get {ls : List Value} {i j : Nat} {v u : Value} (h : (m_st1 ls i v)[j]? = some u) (hu : u ≠ .null) : (j = i ∧ u = v) ∨ (j ≠ i ∧ ls[j]? = some u ∧ (j + 1 = i → ¬ u.category = 2)) := by
  unfold m_st1 at h
  by_cases hj : j = i
  · subst hj
    have hl : j < (m_kill ls j).length := by
      have := (List.getElem?_eq_some_iff.mp h).1
      simpa using this
    rw [List.getElem?_set_self hl] at h
    cases h
    exact Or.inl ⟨rfl, rfl⟩
  · rw [List.getElem?_set_ne (fun q => hj q.symm)] at h
    exact Or.inr ⟨hj, m_kill_get h hu⟩
theorem m_st2_get {ls : List Value} {i j : Nat} {v u : Value} (h : (m_st2 ls i v)[j]? = some u) (hu : u ≠ .null) : (j = i ∧ u = v) ∨ (j ≠ i ∧ j ≠ i + 1 ∧ ls[j]? = some u ∧ (j + 1 = i → ¬ u.category = 2)) := by
  unfold m_st2 at h
  by_cases hj : j = i + 1
  · subst hj
    have hl : i + 1 < ((m_kill ls i).set i v).length := by
      have := (List.getElem?_eq_some_iff.mp h).1
      simpa using this
    rw [List.getElem?_set_self hl] at h
    cases h
    exact absurd rfl hu
  · rw [List.getElem?_set_ne (fun q => hj q.symm)] at h
    rcases m_st1_get (ls := ls) (i := i) (v := v) h hu with q | ⟨q1, q2, q3⟩
    · exact Or.inl q
    · exact Or.inr ⟨q1, hj, q2, q3⟩
theorem m_L_at {b : Nat} {ex : Nat → Nat} {ls : List Value} {lsC : Array Slot} (h : m_L b ex ls lsC) {i : Nat} {v : Value} (hv : ls[i]? = some v) (hn : v ≠ .null) : lsC[i]? = some (.val (m_cv b ex v)) := by
  obtain ⟨lv, h1, h2⟩ := h
  exact h1.2.2 (i, m_cv b ex v) (h2 i v hv hn)
theorem m_L_size {b : Nat} {ex : Nat → Nat} {ls : List Value} {lsC : Array Slot} (h : m_L b ex ls lsC) : lsC.size = ls.length := by
  obtain ⟨lv, h1, -⟩ := h
  exact h1.1
theorem m_L_st1 {b : Nat} {ex : Nat → Nat} {ls : List Value} {lsC : Array Slot} {lv : List (Nat × Value)} {i : Nat} {v : Value} (h2 : ∀ (i : Nat) (v : Value), ls[i]? = some v → v ≠ .null → (i, m_cv b ex v) ∈ lv)
    (h : lv_has lsC ls.length ((i, m_cv b ex v) :: lv.filter (fun q => !(q.1 == i) && !(q.1 + 1 == i && q.2.category == 2)))) : m_L b ex (m_st1 ls i v) lsC := by
  refine ⟨_, by rw [m_st1_len]; exact h, fun j u hj hu => ?_⟩
  rcases m_st1_get hj hu with ⟨rfl, rfl⟩ | ⟨q1, q2, q3⟩
  · exact List.mem_cons_self
  · refine List.mem_cons_of_mem _ (List.mem_filter.mpr ⟨h2 j u q2 hu, ?_⟩)
    have e1 : (j == i) = false := by simpa using q1
    by_cases hs : j + 1 = i
    · have e2 : ((m_cv b ex u).category == 2) = false := by rw [m_cv_cat]; simpa using q3 hs
      simp [e1, e2]
    · have e2 : (j + 1 == i) = false := by simpa using hs
      simp [e1, e2]
theorem m_L_st2 {b : Nat} {ex : Nat → Nat} {ls : List Value} {lsC : Array Slot} {lv : List (Nat × Value)} {i : Nat} {v : Value} (h2 : ∀ (i : Nat) (v : Value), ls[i]? = some v → v ≠ .null → (i, m_cv b ex v) ∈ lv)
    (h : lv_has lsC ls.length ((i, m_cv b ex v) :: lv.filter (fun q => !(q.1 == i) && (!(q.1 == i + 1) && !(q.1 + 1 == i && q.2.category == 2))))) : m_L b ex (m_st2 ls i v) lsC := by
  refine ⟨_, by rw [m_st2_len]; exact h, fun j u hj hu => ?_⟩
  rcases m_st2_get hj hu with ⟨rfl, rfl⟩ | ⟨q1, q0, q2, q3⟩
  · exact List.mem_cons_self
  · refine List.mem_cons_of_mem _ (List.mem_filter.mpr ⟨h2 j u q2 hu, ?_⟩)
    have e1 : (j == i) = false := by simpa using q1
    have e0 : (j == i + 1) = false := by simpa using q0
    by_cases hs : j + 1 = i
    · have e2 : ((m_cv b ex u).category == 2) = false := by rw [m_cv_cat]; simpa using q3 hs
      simp [e1, e0, e2]
    · have e2 : (j + 1 == i) = false := by simpa using hs
      simp [e1, e0, e2]
def m_ldi (ls : List Value) (i : Nat) (st : List Value) : Option (List Value × List Value) := match ls[i]? with
  | some (.int x) => some (ls, .int x :: st)
  | _ => none
def m_lda (ls : List Value) (i : Nat) (st : List Value) : Option (List Value × List Value) := match ls[i]? with
  | some (.ref a) => if a = 0 then none else some (ls, .ref a :: st)
  | _ => none
def m_ldl (ls : List Value) (i : Nat) (st : List Value) : Option (List Value × List Value) := match ls[i]? with
  | some (.long x) => some (ls, .long x :: st)
  | _ => none
def m_sti (ls : List Value) (i : Nat) (st : List Value) : Option (List Value × List Value) := match st with
  | .int x :: r => if i < ls.length then some (m_st1 ls i (.int x), r) else none
  | _ => none
def m_sta (ls : List Value) (i : Nat) (st : List Value) : Option (List Value × List Value) := match st with
  | .ref a :: r => if i < ls.length then (if a = 0 then none else some (m_st1 ls i (.ref a), r)) else none
  | _ => none
def m_stl (ls : List Value) (i : Nat) (st : List Value) : Option (List Value × List Value) := match st with
  | .long x :: r => if i + 1 < ls.length then some (m_st2 ls i (.long x), r) else none
  | _ => none
def m_inc (ls : List Value) (i : Nat) (n : Int) (st : List Value) : Option (List Value × List Value) := match ls[i]? with
  | some (.int x) => some (m_st1 ls i (.int (x + Int32.ofInt n)), st)
  | _ => none
def m_lo (ins : Instr) (ls st : List Value) : Option (List Value × List Value) := match ins with
  | .iload_n k => m_ldi ls (k : Nat) st
  | .iload i => m_ldi ls i st
  | .aload_n k => m_lda ls (k : Nat) st
  | .aload i => m_lda ls i st
  | .lload_n k => m_ldl ls (k : Nat) st
  | .lload i => m_ldl ls i st
  | .istore_n k => m_sti ls (k : Nat) st
  | .istore i => m_sti ls i st
  | .astore_n k => m_sta ls (k : Nat) st
  | .astore i => m_sta ls i st
  | .lstore_n k => m_stl ls (k : Nat) st
  | .lstore i => m_stl ls i st
  | .iinc i n => m_inc ls i n st
  | _ => none
theorem m_ldi_s {ls ls' st t : List Value} {i : Nat} (h : m_ldi ls i st = some (ls', t)) : ∃ x, ls[i]? = some (.int x) ∧ ls' = ls ∧ t = .int x :: st := by
  unfold m_ldi at h
  split at h
  · rename_i x hx; cases h; exact ⟨x, hx, rfl, rfl⟩
  · cases h
theorem m_lda_s {ls ls' st t : List Value} {i : Nat} (h : m_lda ls i st = some (ls', t)) : ∃ a, ls[i]? = some (.ref a) ∧ ¬ a = 0 ∧ ls' = ls ∧ t = .ref a :: st := by
  unfold m_lda at h
  split at h
  · rename_i a ha
    split at h
    · cases h
    · rename_i h0; cases h; exact ⟨a, ha, h0, rfl, rfl⟩
  · cases h
theorem m_ldl_s {ls ls' st t : List Value} {i : Nat} (h : m_ldl ls i st = some (ls', t)) : ∃ x, ls[i]? = some (.long x) ∧ ls' = ls ∧ t = .long x :: st := by
  unfold m_ldl at h
  split at h
  · rename_i x hx; cases h; exact ⟨x, hx, rfl, rfl⟩
  · cases h
theorem m_sti_s {ls ls' st t : List Value} {i : Nat} (h : m_sti ls i st = some (ls', t)) : ∃ x, st = .int x :: t ∧ i < ls.length ∧ ls' = m_st1 ls i (.int x) := by
  unfold m_sti at h
  split at h
  · split at h
    · rename_i hi; cases h; exact ⟨_, rfl, hi, rfl⟩
    · cases h
  · cases h
theorem m_sta_s {ls ls' st t : List Value} {i : Nat} (h : m_sta ls i st = some (ls', t)) : ∃ a, st = .ref a :: t ∧ ¬ a = 0 ∧ i < ls.length ∧ ls' = m_st1 ls i (.ref a) := by
  unfold m_sta at h
  split at h
  · split at h
    · split at h
      · cases h
      · rename_i hi h0; cases h; exact ⟨_, rfl, h0, hi, rfl⟩
    · cases h
  · cases h
theorem m_stl_s {ls ls' st t : List Value} {i : Nat} (h : m_stl ls i st = some (ls', t)) : ∃ x, st = .long x :: t ∧ i + 1 < ls.length ∧ ls' = m_st2 ls i (.long x) := by
  unfold m_stl at h
  split at h
  · split at h
    · rename_i hi; cases h; exact ⟨_, rfl, hi, rfl⟩
    · cases h
  · cases h
theorem m_inc_s {ls ls' st t : List Value} {i : Nat} {n : Int} (h : m_inc ls i n st = some (ls', t)) : ∃ x, ls[i]? = some (.int x) ∧ ls' = m_st1 ls i (.int (x + Int32.ofInt n)) ∧ t = st := by
  unfold m_inc at h
  split at h
  · rename_i x hx; cases h; exact ⟨x, hx, rfl, rfl⟩
  · cases h
theorem m_cv_ref {b : Nat} {ex : Nat → Nat} {a : Nat} (h : ¬ a = 0) : m_cv b ex (.ref a) = .ref (m_ad b ex a) := by simp [m_cv, h]
section MLO
variable {p : Program} {l : Launch} {e : Env} {R : Room} {s : State} {m : MethodId} {args : Array Value} {below : List Frame} {meth : Method} {c : Code} {H : Heap} {locs : List Loc} {cells slots : Nat} {Q : State → Prop} {cc : ByteArray} {pc : Nat} {lsC : Array Slot}
set_option maxHeartbeats 2000000 in
theorem m_lo_W (b : Nat) (ex : Nat → Nat) {ins : Instr} {ls ls' st t : List Value} (hx : p.tables.exec = Jvm.exec) (hb : c.code = cc) (hL : m_L b ex ls lsC) (h : m_lo ins ls st = some (ls', t)) (hd : decode cc pc = .ok (ins, m_len ins))
    (k : ∀ lsC' : Array Slot, m_L b ex ls' lsC' → W p l e R s m args below meth c H locs cells slots Q (F0 m (pc + m_len ins) lsC' (t.map (m_cv b ex)))) : W p l e R s m args below meth c H locs cells slots Q (F0 m pc lsC (st.map (m_cv b ex))) := by
  unfold m_lo at h
  split at h
  · obtain ⟨x, hv, rfl, rfl⟩ := m_ldi_s h; exact lv_iload_n hx hb hd rfl (m_L_at hL hv (by simp)) (k _ hL)
  · obtain ⟨x, hv, rfl, rfl⟩ := m_ldi_s h; exact lv_iload hx hb hd (m_L_at hL hv (by simp)) (k _ hL)
  · obtain ⟨a, hv, h0, rfl, rfl⟩ := m_lda_s h
    have q := m_L_at hL hv (by simp)
    have kk := k _ hL
    rw [List.map_cons, m_cv_ref h0] at kk
    rw [m_cv_ref h0] at q
    exact lv_aload_n hx hb hd rfl q kk
  · obtain ⟨a, hv, h0, rfl, rfl⟩ := m_lda_s h
    have q := m_L_at hL hv (by simp)
    have kk := k _ hL
    rw [List.map_cons, m_cv_ref h0] at kk
    rw [m_cv_ref h0] at q
    exact lv_aload hx hb hd q kk
  · obtain ⟨x, hv, rfl, rfl⟩ := m_ldl_s h; exact lv_lload_n hx hb hd rfl (m_L_at hL hv (by simp)) (k _ hL)
  · obtain ⟨x, hv, rfl, rfl⟩ := m_ldl_s h; exact lv_lload hx hb hd (m_L_at hL hv (by simp)) (k _ hL)
  · obtain ⟨x, rfl, hi, rfl⟩ := m_sti_s h; obtain ⟨lv, h1, h2⟩ := hL; exact lv_istore_n hx hb hd rfl h1 hi rfl (fun ls' hl => k ls' (m_L_st1 (v := .int x) h2 hl))
  · obtain ⟨x, rfl, hi, rfl⟩ := m_sti_s h; obtain ⟨lv, h1, h2⟩ := hL; exact lv_istore hx hb hd h1 hi rfl (fun ls' hl => k ls' (m_L_st1 (v := .int x) h2 hl))
  · obtain ⟨a, rfl, h0, hi, rfl⟩ := m_sta_s h; obtain ⟨lv, h1, h2⟩ := hL
    rw [List.map_cons, m_cv_ref h0]
    exact lv_astore_n hx hb hd rfl h1 hi rfl (fun ls' hl => k ls' (m_L_st1 (v := .ref a) h2 (by rw [m_cv_ref h0]; exact hl)))
  · obtain ⟨a, rfl, h0, hi, rfl⟩ := m_sta_s h; obtain ⟨lv, h1, h2⟩ := hL
    rw [List.map_cons, m_cv_ref h0]
    exact lv_astore hx hb hd h1 hi rfl (fun ls' hl => k ls' (m_L_st1 (v := .ref a) h2 (by rw [m_cv_ref h0]; exact hl)))
  · obtain ⟨x, rfl, hi, rfl⟩ := m_stl_s h; obtain ⟨lv, h1, h2⟩ := hL; exact lv_lstore_n hx hb hd rfl h1 hi rfl (fun ls' hl => k ls' (m_L_st2 (v := .long x) h2 hl))
  · obtain ⟨x, rfl, hi, rfl⟩ := m_stl_s h; obtain ⟨lv, h1, h2⟩ := hL; exact lv_lstore hx hb hd h1 hi rfl (fun ls' hl => k ls' (m_L_st2 (v := .long x) h2 hl))
  · obtain ⟨x, hv, rfl, rfl⟩ := m_inc_s h; obtain ⟨lv, h1, h2⟩ := hL
    obtain ⟨kk, hkk⟩ := List.getElem?_of_mem (h2 _ _ hv (by simp))
    exact lv_iinc hx hb hd h1 hkk rfl (List.getElem?_eq_some_iff.mp hv).1 rfl (fun ls' hl => k ls' (m_L_st1 (v := .int (x + Int32.ofInt _)) h2 hl))
  · cases h
end MLO
/-! branches -/
def m_tg (pc : Nat) (off : Int) : Option Nat := if 0 ≤ (pc : Int) + off then some ((pc : Int) + off).toNat else none
theorem m_tg_s {pc t : Nat} {off : Int} (h : m_tg pc off = some t) : (pc : Int) + off = (t : Int) := by
  unfold m_tg at h
  split at h
  · cases h; omega
  · cases h
def m_to (pc : Nat) (off : Int) (st : List Value) : Option (Nat × List Value) := match m_tg pc off with
  | some t => some (t, st)
  | none => none
theorem m_to_s {pc t : Nat} {off : Int} {st r : List Value} (h : m_to pc off st = some (t, r)) : (pc : Int) + off = (t : Int) ∧ r = st := by
  unfold m_to at h
  split at h
  · rename_i q hq; cases h; exact ⟨m_tg_s hq, rfl⟩
  · cases h
def m_if (cd : ClassFile.Cond) (t pc : Nat) (x : Int32) (r : List Value) : Nat × List Value := match cd with
  | .eq => if x = 0 then (t, r) else (pc + 3, r)
  | .ne => if x = 0 then (pc + 3, r) else (t, r)
  | .lt => if x < 0 then (t, r) else (pc + 3, r)
  | .ge => if 0 ≤ x then (t, r) else (pc + 3, r)
  | .gt => if 0 < x then (t, r) else (pc + 3, r)
  | .le => if x ≤ 0 then (t, r) else (pc + 3, r)
def m_ic (cd : ClassFile.Cond) (t pc : Nat) (x y : Int32) (r : List Value) : Nat × List Value := match cd with
  | .eq => if x = y then (t, r) else (pc + 3, r)
  | .ne => if x = y then (pc + 3, r) else (t, r)
  | .lt => if x < y then (t, r) else (pc + 3, r)
  | .ge => if y ≤ x then (t, r) else (pc + 3, r)
  | .gt => if y < x then (t, r) else (pc + 3, r)
  | .le => if x ≤ y then (t, r) else (pc + 3, r)
def m_ts (d lo hi : Int) (offs : Array Int) (pc : Nat) (x : Int32) (r : List Value) : Option (Nat × List Value) :=
  if x.toInt < lo ∨ hi < x.toInt then m_to pc d r else match offs[(x.toInt - lo).toNat]? with
    | some off => m_to pc off r
    | none => none
def m_br (ins : Instr) (pc : Nat) (st : List Value) : Option (Nat × List Value) := match ins with
  | .goto off => m_to pc off st
  | .ifCond cd off => match m_tg pc off, st with
    | some t, .int x :: r => some (m_if cd t pc x r)
    | _, _ => none
  | .if_icmp cd off => match m_tg pc off, st with
    | some t, .int y :: .int x :: r => some (m_ic cd t pc x y r)
    | _, _ => none
  | .tableswitch d lo hi offs => match st with
    | .int x :: r => m_ts d lo hi offs pc x r
    | _ => none
  | .lookupswitch d ps => match st with
    | .int x :: r => if (ps.toList.zip (ps.toList.drop 1)).all (fun (a, next) => a.1 < next.1) = true then m_to pc (Op.lookupswitch.offset ps.toList d x.toInt) r else none
    | _ => none
  | _ => none
def m_sw (ins : Instr) : Bool := match ins with
  | .tableswitch _ _ _ _ => true
  | .lookupswitch _ _ => true
  | _ => false
section MBR
variable {p : Program} {l : Launch} {e : Env} {R : Room} {s : State} {m : MethodId} {args : Array Value} {below : List Frame} {meth : Method} {c : Code} {H : Heap} {locs : List Loc} {cells slots : Nat} {Q : State → Prop} {cc : ByteArray} {pc : Nat} {ls : Array Slot} {rest : List Value}
theorem m_if_W {f : Value → Value} {cd : ClassFile.Cond} {off : Int} {x : Int32} {t : Nat} {r : List Value} (hx : p.tables.exec = Jvm.exec) (hb : c.code = cc) (ht : (pc : Int) + off = (t : Int)) (hd : decode cc pc = .ok (.ifCond cd off, 3))
    (k : W p l e R s m args below meth c H locs cells slots Q (F0 m (m_if cd t pc x r).1 ls ((m_if cd t pc x r).2.map f))) : W p l e R s m args below meth c H locs cells slots Q (F0 m pc ls (.int x :: r.map f)) := by
  cases cd with
  | eq => exact lv_if_eq hx hb hd ht (fun q => by simpa [m_if, q] using k) (fun q => by simpa [m_if, q] using k)
  | ne => exact lv_if_ne hx hb hd ht (fun q => by simpa [m_if, q] using k) (fun q => by simpa [m_if, q] using k)
  | lt => exact lv_if_lt hx hb hd ht (fun q => by simpa only [m_if, if_pos q] using k) (fun q => by simpa only [m_if, if_neg q] using k)
  | ge => exact lv_if_ge hx hb hd ht (fun q => by simpa only [m_if, if_pos q] using k) (fun q => by simpa only [m_if, if_neg q] using k)
  | gt => exact lv_if_gt hx hb hd ht (fun q => by simpa only [m_if, if_pos q] using k) (fun q => by simpa only [m_if, if_neg q] using k)
  | le => exact lv_if_le hx hb hd ht (fun q => by simpa only [m_if, if_pos q] using k) (fun q => by simpa only [m_if, if_neg q] using k)
theorem m_ic_W {f : Value → Value} {cd : ClassFile.Cond} {off : Int} {x y : Int32} {t : Nat} {r : List Value} (hx : p.tables.exec = Jvm.exec) (hb : c.code = cc) (ht : (pc : Int) + off = (t : Int)) (hd : decode cc pc = .ok (.if_icmp cd off, 3))
    (k : W p l e R s m args below meth c H locs cells slots Q (F0 m (m_ic cd t pc x y r).1 ls ((m_ic cd t pc x y r).2.map f))) : W p l e R s m args below meth c H locs cells slots Q (F0 m pc ls (.int y :: .int x :: r.map f)) := by
  cases cd with
  | eq => exact lv_icmp_eq hx hb hd ht (fun q => by simpa only [m_ic, if_pos q] using k) (fun q => by simpa only [m_ic, if_neg q] using k)
  | ne => exact lv_icmp_ne hx hb hd ht (fun q => by simpa only [m_ic, if_neg q] using k) (fun q => by simpa only [m_ic, if_pos q] using k)
  | lt => exact lv_icmp_lt hx hb hd ht (fun q => by simpa only [m_ic, if_pos q] using k) (fun q => by simpa only [m_ic, if_neg q] using k)
  | ge => exact lv_icmp_ge hx hb hd ht (fun q => by simpa only [m_ic, if_pos q] using k) (fun q => by simpa only [m_ic, if_neg q] using k)
  | gt => exact lv_icmp_gt hx hb hd ht (fun q => by simpa only [m_ic, if_pos q] using k) (fun q => by simpa only [m_ic, if_neg q] using k)
  | le => exact lv_icmp_le hx hb hd ht (fun q => by simpa only [m_ic, if_pos q] using k) (fun q => by simpa only [m_ic, if_neg q] using k)
set_option maxHeartbeats 2000000 in
theorem m_br_W (b : Nat) (ex : Nat → Nat) {ins : Instr} {len pc' : Nat} {st t : List Value} (hx : p.tables.exec = Jvm.exec) (hb : c.code = cc) (h : m_br ins pc st = some (pc', t)) (hd : decode cc pc = .ok (ins, len)) (hlen : m_sw ins = false → len = m_len ins)
    (k : W p l e R s m args below meth c H locs cells slots Q (F0 m pc' ls (t.map (m_cv b ex)))) : W p l e R s m args below meth c H locs cells slots Q (F0 m pc ls (st.map (m_cv b ex))) := by
  unfold m_br at h
  split at h
  · have hl := hlen rfl
    subst hl
    obtain ⟨h1, rfl⟩ := m_to_s h
    exact lv_goto hx hb hd h1 k
  · have hl := hlen rfl
    subst hl
    split at h
    · rename_i q1 q2 q3 hq
      have h1 := Option.some.inj h
      refine m_if_W (f := m_cv b ex) hx hb (m_tg_s (by assumption)) hd ?_
      rw [h1]
      exact k
    · cases h
  · have hl := hlen rfl
    subst hl
    split at h
    · have h1 := Option.some.inj h
      refine m_ic_W (f := m_cv b ex) hx hb (m_tg_s (by assumption)) hd ?_
      rw [h1]
      exact k
    · cases h
  · split at h
    · unfold m_ts at h
      split at h
      · rename_i hq
        obtain ⟨h1, rfl⟩ := m_to_s h
        exact lv_tableOut hx hb hd hq h1 k
      · rename_i hq
        split at h
        · rename_i off ho
          obtain ⟨h1, rfl⟩ := m_to_s h
          exact lv_tableIn hx hb hd (fun q => hq (Or.inl q)) (fun q => hq (Or.inr q)) ho h1 k
        · cases h
    · cases h
  · split at h
    · split at h
      · rename_i hp
        obtain ⟨h1, rfl⟩ := m_to_s h
        exact lv_lookup hx hb hd hp rfl h1 k
      · cases h
    · cases h
  · cases h
end MBR
