/-! ===== THE SMALL MACHINE: values are the machine's own, but a reference is a number a: a / 32 - 1 counts the cells that the law's run has made, a % 32 is the kind (1 + its place in vwCl; 20 int[], 21 byte[], 22 boolean[], 23 long[]; 24 the script, 25 a text constant; 31 a throwable); 0 is null. ===== -/
/-- a world: cells made, slots made, the kind of the k-th cell, lengths, ints, references, longs -/
abbrev mW : Type := Nat × Nat × (Nat → Nat) × (Nat → Nat) × (Nat → Nat → Int32) × (Nat → Nat → Nat) × (Nat → Nat → Int64)
def m_n (w : mW) : Nat := w.1
def m_s (w : mW) : Nat := w.2.1
def m_K (w : mW) : Nat → Nat := w.2.2.1
def m_N (w : mW) : Nat → Nat := w.2.2.2.1
def m_I (w : mW) : Nat → Nat → Int32 := w.2.2.2.2.1
def m_P (w : mW) : Nat → Nat → Nat := w.2.2.2.2.2.1
def m_J (w : mW) : Nat → Nat → Int64 := w.2.2.2.2.2.2
def m_u2 {α : Type} (f : Nat → Nat → α) (a k : Nat) (v : α) : Nat → Nat → α := fun i j => if i = a then (if j = k then v else f i j) else f i j
def m_wI (w : mW) (a k : Nat) (v : Int32) : mW := (w.1, w.2.1, w.2.2.1, w.2.2.2.1, m_u2 w.2.2.2.2.1 a k v, w.2.2.2.2.2.1, w.2.2.2.2.2.2)
def m_wP (w : mW) (a k : Nat) (v : Nat) : mW := (w.1, w.2.1, w.2.2.1, w.2.2.2.1, w.2.2.2.2.1, m_u2 w.2.2.2.2.2.1 a k v, w.2.2.2.2.2.2)
def m_wJ (w : mW) (a k : Nat) (v : Int64) : mW := (w.1, w.2.1, w.2.2.1, w.2.2.2.1, w.2.2.2.2.1, w.2.2.2.2.2.1, m_u2 w.2.2.2.2.2.2 a k v)
/-- the cell's real address: b where the law's cells begin, ex of what was there before -/
def m_ad (b : Nat) (ex : Nat → Nat) (a : Nat) : Nat := if a % 32 = 24 ∨ a % 32 = 25 then ex a else b + (a / 32 - 1)
def m_cv (b : Nat) (ex : Nat → Nat) (v : Value) : Value := match v with
  | .ref a => if a = 0 then .null else .ref (m_ad b ex a)
  | v => v
theorem m_cv_cat (b : Nat) (ex : Nat → Nat) (v : Value) : (m_cv b ex v).category = v.category := by
  cases v with
  | ref a => by_cases h : a = 0 <;> simp [m_cv, h, Value.category]
  | _ => rfl
/-- how long an instruction is (switches apart) -/
def m_len (i : Instr) : Nat := match i with
  | .bipush _ | .iload _ | .aload _ | .lload _ | .istore _ | .astore _ | .lstore _ | .ldc _ | .newarray _ => 2
  | .sipush _ | .iinc _ _ | .getfield _ | .putfield _ | .goto _ | .ifCond _ _ | .if_icmp _ _ | .ldc_w _ | .ldc2_w _ | .invokevirtual _ | .invokestatic _ | .invokespecial _ | .new _ => 3
  | _ => 1
/-! stack alone -/
def m_ii (f : Int32 → Int32 → Value) (st : List Value) : Option (List Value) := match st with
  | .int y :: .int x :: r => some (f x y :: r)
  | _ => none
def m_iz (f : Int32 → Int32 → Value) (st : List Value) : Option (List Value) := match st with
  | .int y :: .int x :: r => if y = 0 then none else some (f x y :: r)
  | _ => none
def m_i1 (f : Int32 → Value) (st : List Value) : Option (List Value) := match st with
  | .int x :: r => some (f x :: r)
  | _ => none
def m_ll (f : Int64 → Int64 → Value) (st : List Value) : Option (List Value) := match st with
  | .long y :: .long x :: r => some (f x y :: r)
  | _ => none
def m_lz (f : Int64 → Int64 → Value) (st : List Value) : Option (List Value) := match st with
  | .long y :: .long x :: r => if y = 0 then none else some (f x y :: r)
  | _ => none
def m_l1 (f : Int64 → Value) (st : List Value) : Option (List Value) := match st with
  | .long x :: r => some (f x :: r)
  | _ => none
def m_li (f : Int64 → Int32 → Value) (st : List Value) : Option (List Value) := match st with
  | .int y :: .long x :: r => some (f x y :: r)
  | _ => none
def m_du (st : List Value) : Option (List Value) := match st with
  | v :: r => if v.category = 1 then some (v :: v :: r) else none
  | _ => none
def m_d2 (st : List Value) : Option (List Value) := match st with
  | v :: u :: r => if v.category = 1 ∧ u.category = 1 then some (v :: u :: v :: u :: r) else none
  | _ => none
def m_po (st : List Value) : Option (List Value) := match st with
  | v :: r => if v.category = 1 then some r else none
  | _ => none
theorem m_ii_s {f : Int32 → Int32 → Value} {st t : List Value} (h : m_ii f st = some t) : ∃ x y r, st = .int y :: .int x :: r ∧ t = f x y :: r := by
  unfold m_ii at h
  split at h
  · cases h; exact ⟨_, _, _, rfl, rfl⟩
  · cases h
theorem m_iz_s {f : Int32 → Int32 → Value} {st t : List Value} (h : m_iz f st = some t) : ∃ x y r, st = .int y :: .int x :: r ∧ ¬ y = 0 ∧ t = f x y :: r := by
  unfold m_iz at h
  split at h
  · split at h
    · cases h
    · rename_i hy; cases h; exact ⟨_, _, _, rfl, hy, rfl⟩
  · cases h
theorem m_i1_s {f : Int32 → Value} {st t : List Value} (h : m_i1 f st = some t) : ∃ x r, st = .int x :: r ∧ t = f x :: r := by
  unfold m_i1 at h
  split at h
  · cases h; exact ⟨_, _, rfl, rfl⟩
  · cases h
theorem m_ll_s {f : Int64 → Int64 → Value} {st t : List Value} (h : m_ll f st = some t) : ∃ x y r, st = .long y :: .long x :: r ∧ t = f x y :: r := by
  unfold m_ll at h
  split at h
  · cases h; exact ⟨_, _, _, rfl, rfl⟩
  · cases h
theorem m_lz_s {f : Int64 → Int64 → Value} {st t : List Value} (h : m_lz f st = some t) : ∃ x y r, st = .long y :: .long x :: r ∧ ¬ y = 0 ∧ t = f x y :: r := by
  unfold m_lz at h
  split at h
  · split at h
    · cases h
    · rename_i hy; cases h; exact ⟨_, _, _, rfl, hy, rfl⟩
  · cases h
theorem m_l1_s {f : Int64 → Value} {st t : List Value} (h : m_l1 f st = some t) : ∃ x r, st = .long x :: r ∧ t = f x :: r := by
  unfold m_l1 at h
  split at h
  · cases h; exact ⟨_, _, rfl, rfl⟩
  · cases h
theorem m_li_s {f : Int64 → Int32 → Value} {st t : List Value} (h : m_li f st = some t) : ∃ x y r, st = .int y :: .long x :: r ∧ t = f x y :: r := by
  unfold m_li at h
  split at h
  · cases h; exact ⟨_, _, _, rfl, rfl⟩
  · cases h
theorem m_du_s {st t : List Value} (h : m_du st = some t) : ∃ v r, st = v :: r ∧ v.category = 1 ∧ t = v :: v :: r := by
  unfold m_du at h
  split at h
  · split at h
    · rename_i hv; cases h; exact ⟨_, _, rfl, hv, rfl⟩
    · cases h
  · cases h
theorem m_d2_s {st t : List Value} (h : m_d2 st = some t) : ∃ v u r, st = v :: u :: r ∧ v.category = 1 ∧ u.category = 1 ∧ t = v :: u :: v :: u :: r := by
  unfold m_d2 at h
  split at h
  · split at h
    · rename_i hv; cases h; exact ⟨_, _, _, rfl, hv.1, hv.2, rfl⟩
    · cases h
  · cases h
theorem m_po_s {st t : List Value} (h : m_po st = some t) : ∃ v, st = v :: t ∧ v.category = 1 := by
  unfold m_po at h
  split at h
  · split at h
    · rename_i hv; cases h; exact ⟨_, rfl, hv⟩
    · cases h
  · cases h
def m_op (ins : Instr) (st : List Value) : Option (List Value) := match ins with
  | .iconst n => some (.int (Int32.ofInt n) :: st)
  | .bipush n => some (.int (Int8.ofInt n).toInt32 :: st)
  | .sipush n => some (.int (Int16.ofInt n).toInt32 :: st)
  | .lconst n => some (.long (Int64.ofNat (n : Nat)) :: st)
  | .iadd => m_ii (fun x y => .int (x + y)) st
  | .isub => m_ii (fun x y => .int (x - y)) st
  | .imul => m_ii (fun x y => .int (x * y)) st
  | .iand => m_ii (fun x y => .int (x &&& y)) st
  | .ior => m_ii (fun x y => .int (x ||| y)) st
  | .ixor => m_ii (fun x y => .int (x ^^^ y)) st
  | .ishl => m_ii (fun x y => .int (x <<< (y &&& 31))) st
  | .ishr => m_ii (fun x y => .int (x >>> (y &&& 31))) st
  | .iushr => m_ii (fun x y => .int (x.toUInt32 >>> (y.toUInt32 &&& Int32.toUInt32 31)).toInt32) st
  | .idiv => m_iz (fun x y => .int (x / y)) st
  | .irem => m_iz (fun x y => .int (x - x / y * y)) st
  | .ineg => m_i1 (fun x => .int (-x)) st
  | .i2l => m_i1 (fun x => .long x.toInt64) st
  | .i2b => m_i1 (fun x => .int x.toInt8.toInt32) st
  | .l2i => m_l1 (fun x => .int x.toInt32) st
  | .ladd => m_ll (fun x y => .long (x + y)) st
  | .lsub => m_ll (fun x y => .long (x - y)) st
  | .lmul => m_ll (fun x y => .long (x * y)) st
  | .lor => m_ll (fun x y => .long (x ||| y)) st
  | .ldiv => m_lz (fun x y => .long (x / y)) st
  | .lcmp => m_ll (fun x y => .int (lg_cmp x y)) st
  | .lshl => m_li (fun x y => .long (x <<< (y.toInt64 &&& 63))) st
  | .dup => m_du st
  | .dup2 => m_d2 st
  | .pop => m_po st
  | _ => none
section MOP
variable {p : Program} {l : Launch} {e : Env} {R : Room} {s : State} {m : MethodId} {args : Array Value} {below : List Frame} {meth : Method} {c : Code} {H : Heap} {locs : List Loc} {cells slots : Nat} {Q : State → Prop} {cc : ByteArray} {pc : Nat} {ls : Array Slot}
set_option maxHeartbeats 2000000 in
theorem m_op_W (b : Nat) (ex : Nat → Nat) {ins : Instr} {st t : List Value} (hx : p.tables.exec = Jvm.exec) (hb : c.code = cc) (h : m_op ins st = some t) (hd : decode cc pc = .ok (ins, m_len ins))
    (k : W p l e R s m args below meth c H locs cells slots Q (F0 m (pc + m_len ins) ls (t.map (m_cv b ex)))) : W p l e R s m args below meth c H locs cells slots Q (F0 m pc ls (st.map (m_cv b ex))) := by
  unfold m_op at h
  split at h
  · cases h; exact lv_iconst hx hb hd rfl k
  · cases h; exact lv_bipush hx hb hd rfl k
  · cases h; exact lv_sipush hx hb hd rfl k
  · cases h; exact lv_lconst hx hb hd rfl k
  · obtain ⟨x, y, r, rfl, rfl⟩ := m_ii_s h; exact lv_iadd hx hb hd k
  · obtain ⟨x, y, r, rfl, rfl⟩ := m_ii_s h; exact lv_isub hx hb hd k
  · obtain ⟨x, y, r, rfl, rfl⟩ := m_ii_s h; exact lv_imul hx hb hd k
  · obtain ⟨x, y, r, rfl, rfl⟩ := m_ii_s h; exact lv_iand hx hb hd k
  · obtain ⟨x, y, r, rfl, rfl⟩ := m_ii_s h; exact lv_ior hx hb hd k
  · obtain ⟨x, y, r, rfl, rfl⟩ := m_ii_s h; exact lv_ixor hx hb hd k
  · obtain ⟨x, y, r, rfl, rfl⟩ := m_ii_s h; exact lv_ishl hx hb hd k
  · obtain ⟨x, y, r, rfl, rfl⟩ := m_ii_s h; exact lv_ishr hx hb hd k
  · obtain ⟨x, y, r, rfl, rfl⟩ := m_ii_s h; exact lv_iushr hx hb hd rfl k
  · obtain ⟨x, y, r, rfl, hy, rfl⟩ := m_iz_s h; exact lv_idiv hx hb hd hy k
  · obtain ⟨x, y, r, rfl, hy, rfl⟩ := m_iz_s h; exact lv_irem hx hb hd hy k
  · obtain ⟨x, r, rfl, rfl⟩ := m_i1_s h; exact lv_ineg hx hb hd k
  · obtain ⟨x, r, rfl, rfl⟩ := m_i1_s h; exact lv_i2l hx hb hd rfl k
  · obtain ⟨x, r, rfl, rfl⟩ := m_i1_s h; exact lv_i2b hx hb hd rfl k
  · obtain ⟨x, r, rfl, rfl⟩ := m_l1_s h; exact lv_l2i hx hb hd rfl k
  · obtain ⟨x, y, r, rfl, rfl⟩ := m_ll_s h; exact lv_ladd hx hb hd k
  · obtain ⟨x, y, r, rfl, rfl⟩ := m_ll_s h; exact lv_lsub hx hb hd k
  · obtain ⟨x, y, r, rfl, rfl⟩ := m_ll_s h; exact lv_lmul hx hb hd k
  · obtain ⟨x, y, r, rfl, rfl⟩ := m_ll_s h; exact lv_lor hx hb hd k
  · obtain ⟨x, y, r, rfl, hy, rfl⟩ := m_lz_s h; exact lv_ldiv hx hb hd hy k
  · obtain ⟨x, y, r, rfl, rfl⟩ := m_ll_s h; exact W.lcmp hx hb hd k
  · obtain ⟨x, y, r, rfl, rfl⟩ := m_li_s h; exact lv_lshl hx hb hd rfl k
  · obtain ⟨v, r, rfl, hv, rfl⟩ := m_du_s h; exact lv_dup hx hb hd ((m_cv_cat b ex v).trans hv) k
  · obtain ⟨v, u, r, rfl, hv, hu, rfl⟩ := m_d2_s h; exact lv_dup2_11 hx hb hd ((m_cv_cat b ex v).trans hv) ((m_cv_cat b ex u).trans hu) k
  · obtain ⟨v, rfl, hv⟩ := m_po_s h; exact lv_pop hx hb hd ((m_cv_cat b ex v).trans hv) k
  · cases h
end MOP
