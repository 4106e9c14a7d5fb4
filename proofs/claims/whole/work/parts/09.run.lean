/-! the small machine's run -/
abbrev mRow : Type := Instr × Nat × List Nat
/-- name, bytes, locals, what it returns, rows, handlers (from, to, where) -/
abbrev mM : Type := MethodName × ByteArray × Nat × Option FieldType × (Nat → Option mRow) × List (Nat × Nat × Nat × Nat)
abbrev m_My (M : mM) : MethodName := M.1
abbrev m_Mb (M : mM) : ByteArray := M.2.1
abbrev m_Ml (M : mM) : Nat := M.2.2.1
abbrev m_Mr (M : mM) : Option FieldType := M.2.2.2.1
abbrev m_Mc (M : mM) : Nat → Option mRow := M.2.2.2.2.1
abbrev m_Mh (M : mM) : List (Nat × Nat × Nat × Nat) := M.2.2.2.2.2
/-- how a method ended: a value or none; or the number of a throwable -/
abbrev mR : Type := Option Value ⊕ Nat
abbrev mN : Type := (Nat × List Value × List Value × mW) ⊕ ((Nat × List Value × List Value) ⊕ (mR × mW))
def m_nx (pc : Nat) (ls : List Value) (w : mW) (t : Option (List Value)) : Option mN := match t with
  | some t => some (.inl (pc, ls, t, w))
  | none => none
def m_nw2 (pc : Nat) (ls : List Value) (t : Option (List Value × mW)) : Option mN := match t with
  | some t => some (.inl (pc, ls, t.1, t.2))
  | none => none
/-- constants: [0, n] an int, [1, a] a text, [2, n] a long -/
def m_ldk (x : List Nat) (st : List Value) : Option (List Value) := match x with
  | 0 :: n :: _ => some (.int (Int32.ofNat n) :: st)
  | 1 :: a :: _ => if a % 32 = 25 then some (.ref a :: st) else none
  | 2 :: n :: _ => some (.long (Int64.ofNat n) :: st)
  | _ => none
/-- a call: method, how many values, the receiver's kind or 0 -/
def m_cl (x : List Nat) (st : List Value) : Option mN := match x with
  | mi :: na :: kd :: _ =>
    if na ≤ st.length ∧ ((st.drop na).map (fun v => v.category)).sum ≤ 8 ∧ ((st.take na).all (fun v => v.category == 1)) = true then
      (if kd = 0 then some (.inr (.inl (mi, (st.take na).reverse, st.drop na))) else match (st.take na).reverse with
        | .ref a :: _ => if a % 32 = kd then some (.inr (.inl (mi, (st.take na).reverse, st.drop na))) else none
        | _ => none) else none
  | _ => none
def m_rt (ty : Option FieldType) (ins : Instr) (st : List Value) (w : mW) : Option mN := match ins, ty, st with
  | .return_, none, [] => some (.inr (.inr (.inl none, w)))
  | .ireturn, some .int, [.int x] => some (.inr (.inr (.inl (some (.int x)), w)))
  | .ireturn, some .boolean, [.int x] => if x = 0 ∨ x = 1 then some (.inr (.inr (.inl (some (.int x)), w))) else none
  | .lreturn, some .long, [.long x] => some (.inr (.inr (.inl (some (.long x)), w)))
  | _, _, _ => none
/-- [0, ci]: a new object; [1, e]: 'throw new E(text)' -/
def m_nt (x : List Nat) (pc : Nat) (ls st : List Value) (w : mW) : Option mN := match x with
  | 0 :: ci :: _ => m_nw2 (pc + 3) ls (m_nw [ci] st w)
  | 1 :: e :: _ => if (st.map (fun v => v.category)).sum ≤ 8 then some (.inr (.inr (.inr e, m_mk w 31 0 6))) else none
  | _ => none
def m_obj (x : List Nat) (pc : Nat) (ls st : List Value) (w : mW) : Option mN := match st with
  | .ref a :: r => if a = 0 ∨ 8 < (r.map (fun v => v.category)).sum then none else some (.inl (pc + 3, ls, r, w))
  | _ => none
/-- text constants: whose, which entry, the text, its signs; the k-th one is the reference 32 * (k + 1) + 25 -/
def m_strs : List (String × Nat × String × List Nat) := [
  ("FerryHall", 109, "the tape has not so many bytes", [116, 104, 101, 32, 116, 97, 112, 101, 32, 104, 97, 115, 32, 110, 111, 116, 32, 115, 111, 32, 109, 97, 110, 121, 32, 98, 121, 116, 101, 115]),
  ("FerryHall", 157, "no such count", [110, 111, 32, 115, 117, 99, 104, 32, 99, 111, 117, 110, 116]),
  ("FerryHall", 173, "no such number of a thing", [110, 111, 32, 115, 117, 99, 104, 32, 110, 117, 109, 98, 101, 114, 32, 111, 102, 32, 97, 32, 116, 104, 105, 110, 103]),
  ("FerryHall", 175, "no such thing", [110, 111, 32, 115, 117, 99, 104, 32, 116, 104, 105, 110, 103]),
  ("FerryHall", 177, "no such boat", [110, 111, 32, 115, 117, 99, 104, 32, 98, 111, 97, 116]),
  ("FerryHall", 188, "no such number of a boat", [110, 111, 32, 115, 117, 99, 104, 32, 110, 117, 109, 98, 101, 114, 32, 111, 102, 32, 97, 32, 98, 111, 97, 116]),
  ("FerryHall", 190, "no such shore", [110, 111, 32, 115, 117, 99, 104, 32, 115, 104, 111, 114, 101]),
  ("FerryHall", 208, "no such shore, or not so many boats", [110, 111, 32, 115, 117, 99, 104, 32, 115, 104, 111, 114, 101, 44, 32, 111, 114, 32, 110, 111, 116, 32, 115, 111, 32, 109, 97, 110, 121, 32, 98, 111, 97, 116, 115]),
  ("FerryHall", 230, "no such what", [110, 111, 32, 115, 117, 99, 104, 32, 119, 104, 97, 116]),
  ("FerryHall", 263, "no such crossing", [110, 111, 32, 115, 117, 99, 104, 32, 99, 114, 111, 115, 115, 105, 110, 103]),
  ("FerryHall", 275, "the way has not so many crossings", [116, 104, 101, 32, 119, 97, 121, 32, 104, 97, 115, 32, 110, 111, 116, 32, 115, 111, 32, 109, 97, 110, 121, 32, 99, 114, 111, 115, 115, 105, 110, 103, 115]),
  ("FerryHall", 280, "no way is kept", [110, 111, 32, 119, 97, 121, 32, 105, 115, 32, 107, 101, 112, 116]),
  ("FerryHall", 301, "no boat", [110, 111, 32, 98, 111, 97, 116]),
  ("FerryHall", 343, "no such number of the play", [110, 111, 32, 115, 117, 99, 104, 32, 110, 117, 109, 98, 101, 114, 32, 111, 102, 32, 116, 104, 101, 32, 112, 108, 97, 121]),
  ("FerryHall$Reader", 108, "shores", [115, 104, 111, 114, 101, 115]),
  ("FerryHall$Reader", 113, "thing", [116, 104, 105, 110, 103]),
  ("FerryHall$Reader", 118, "boat", [98, 111, 97, 116]),
  ("FerryHall$Reader", 123, "water", [119, 97, 116, 101, 114]),
  ("FerryHall$Reader", 129, "way", [119, 97, 121]),
  ("FerryHall$Reader", 131, "lamp", [108, 97, 109, 112]),
  ("FerryHall$Reader", 136, "never", [110, 101, 118, 101, 114]),
  ("FerryHall$Reader", 147, "weight", [119, 101, 105, 103, 104, 116]),
  ("FerryHall$Reader", 153, "rows", [114, 111, 119, 115]),
  ("FerryHall$Reader", 176, "holds", [104, 111, 108, 100, 115]),
  ("FerryHall$Reader", 180, "load", [108, 111, 97, 100]),
  ("FerryHall$Reader", 185, "at", [97, 116]),
  ("FerryHall$Reader", 211, "ashore", [97, 115, 104, 111, 114, 101]),
  ("FerryHall$Reader", 213, "aboard", [97, 98, 111, 97, 114, 100]),
  ("FerryHall$Reader", 233, "or", [111, 114]),
  ("FerryHall$Reader", 237, "and", [97, 110, 100]),
  ("FerryHall$Reader", 243, "not", [110, 111, 116]),
  ("FerryHall$Reader", 254, "many", [109, 97, 110, 121]),
  ("FerryHall$Reader", 256, "rowers", [114, 111, 119, 101, 114, 115]),
  ("FerryHall$Reader", 258, "boats", [98, 111, 97, 116, 115]),
  ("FerryHall$Reader", 259, "shore", [115, 104, 111, 114, 101])]
def m_sig (a : Nat) : List Nat := match m_strs[a / 32 - 1]? with
  | some q => q.2.2.2
  | none => []
/-- an int[] like a, of n places -/
def m_cpy (w : mW) (a n : Nat) : mW := (w.1 + 1, w.2.1 + n, (fun k => if k = w.1 then 20 else w.2.2.1 k), (fun i => if i = 32 * (w.1 + 1) + 20 then n else w.2.2.2.1 i),
  (fun i j => if i = 32 * (w.1 + 1) + 20 then (if j < w.2.2.2.1 a ∧ j < n then w.2.2.2.2.1 a j else 0) else w.2.2.2.2.1 i j), (fun i j => if i = 32 * (w.1 + 1) + 20 then 0 else w.2.2.2.2.2.1 i j), (fun i j => if i = 32 * (w.1 + 1) + 20 then 0 else w.2.2.2.2.2.2 i j))
/-- members of the JDK: 0 String.length, 1 String.charAt, 2 Arrays.copyOf, 3 Math.max, 4 Math.min -/
def m_bi (k : Nat) (st : List Value) (w : mW) : Option (List Value × mW) := match k, st with
  | 0, .ref a :: r => if (a % 32 = 25 ∧ 1 ≤ a / 32 ∧ a / 32 ≤ 35) ∧ (r.map (fun v => v.category)).sum ≤ 8 then some (.int (Int32.ofNat (m_sig a).length) :: r, w) else none
  | 1, .int i :: .ref a :: r => if (a % 32 = 25 ∧ 1 ≤ a / 32 ∧ a / 32 ≤ 35) ∧ (r.map (fun v => v.category)).sum ≤ 8 then (if i < 0 ∨ (m_sig a).length ≤ i.toNatClampNeg then none else some (.int (Int32.ofNat ((m_sig a).getD i.toNatClampNeg 0)) :: r, w)) else none
  | 2, .int n :: .ref a :: r => if a % 32 = 20 ∧ (r.map (fun v => v.category)).sum ≤ 8 then (if n < 0 ∨ 60000 ≤ n.toNatClampNeg ∨ n.toNatClampNeg = m_N w a ∨ 60000 ≤ m_N w a then none else some (.ref (32 * (m_n w + 1) + 20) :: r, m_cpy w a n.toNatClampNeg)) else none
  | 3, .int y :: .int x :: r => if (r.map (fun v => v.category)).sum ≤ 8 then some (.int (if x < y then y else x) :: r, w) else none
  | 4, .int y :: .int x :: r => if (r.map (fun v => v.category)).sum ≤ 8 then some (.int (if y < x then y else x) :: r, w) else none
  | _, _ => none
def m_simple (ins : Instr) (pc : Nat) (ls st : List Value) (w : mW) : Option mN := match m_op ins st with
  | some t => some (.inl (pc + m_len ins, ls, t, w))
  | none => match m_lo ins ls st with
    | some (ls', t) => some (.inl (pc + m_len ins, ls', t, w))
    | none => match m_br ins pc st with
      | some (pc', t) => some (.inl (pc', ls, t, w))
      | none => none
def m_step (sc : mS) (M : mM) (pc : Nat) (ls st : List Value) (w : mW) : Option mN := match m_Mc M pc with
  | none => none
  | some (ins, _, x) => match ins with
    | .getfield _ => m_nx (pc + 3) ls w (m_gf x st w)
    | .putfield _ => m_nw2 (pc + 3) ls (m_pf x st w)
    | .new _ => m_nt x pc ls st w
    | .newarray ty => m_nw2 (pc + 2) ls (m_na ty st w)
    | .iaload => m_nx (pc + 1) ls w (m_al .iaload sc st w)
    | .baload => m_nx (pc + 1) ls w (m_al .baload sc st w)
    | .laload => m_nx (pc + 1) ls w (m_al .laload sc st w)
    | .arraylength => m_nx (pc + 1) ls w (m_al .arraylength sc st w)
    | .iastore => m_nw2 (pc + 1) ls (m_as .iastore st w)
    | .bastore => m_nw2 (pc + 1) ls (m_as .bastore st w)
    | .lastore => m_nw2 (pc + 1) ls (m_as .lastore st w)
    | .ldc _ => m_nx (pc + 2) ls w (m_ldk x st)
    | .ldc_w _ => m_nx (pc + 3) ls w (m_ldk x st)
    | .ldc2_w _ => m_nx (pc + 3) ls w (m_ldk x st)
    | .invokevirtual _ => match x with
      | [k] => m_nw2 (pc + 3) ls (m_bi k st w)
      | _ => m_cl x st
    | .invokestatic _ => match x with
      | [k] => m_nw2 (pc + 3) ls (m_bi k st w)
      | _ => m_cl x st
    | .invokespecial _ => match x with
      | [] => m_obj x pc ls st w
      | _ => m_cl x st
    | .return_ => m_rt (m_Mr M) .return_ st w
    | .ireturn => m_rt (m_Mr M) .ireturn st w
    | .lreturn => m_rt (m_Mr M) .lreturn st w
    | _ => m_simple ins pc ls st w
def m_en (args : List Value) (n : Nat) : List Value := args ++ List.replicate (n - args.length) .null
/-- the class that a row of a handler's table names -/
def m_ct (c e : Nat) : Bool := (c == 13 && e == 1) || (c == 18 && e == 0)
/-- where a throw at pc is caught: behind the handler's first instruction, which puts it into a local -/
def m_hd (M : mM) (pc : Nat) (ls : List Value) (e : Nat) : Option (Option (Nat × List Value)) := match m_Mc M pc with
  | some (.invokespecial _, _, _) => none
  | _ => match m_Mh M with
  | [] => some none
  | hs => match hs.find? (fun h => (decide (h.1 ≤ pc) && decide (pc < h.2.1)) && m_ct h.2.2.2 e) with
    | none => none
    | some h => match m_Mc M h.2.2.1 with
      | some (.astore_n k, _, _) => if (k : Nat) < ls.length then some (some (h.2.2.1 + 1, m_st1 ls (k : Nat) .null)) else none
      | some (.astore k, _, _) => if k < ls.length then some (some (h.2.2.1 + 2, m_st1 ls k .null)) else none
      | _ => none
def m_run (G : Nat → Option mM) (sc : mS) : Nat → Nat → mM → Nat → List Value → List Value → mW → Option (mR × mW)
  | 0, _, _, _, _, _, _ => none
  | f + 1, d, M, pc, ls, st, w => match m_step sc M pc ls st w with
    | none => none
    | some (.inl (pc', ls', st', w')) => m_run G sc f d M pc' ls' st' w'
    | some (.inr (.inr r)) => some r
    | some (.inr (.inl (mj, args, rest))) => match d, G mj with
      | d' + 1, some Mj => match m_run G sc f d' Mj 0 (m_en args (m_Ml Mj)) [] w with
        | none => none
        | some (.inl v, w') => m_run G sc f d M (pc + 3) ls (v.toList ++ rest) w'
        | some (.inr e, w') => match m_hd M pc ls e with
          | none => none
          | some none => some (.inr e, w')
          | some (some (pc', ls')) => m_run G sc f d M pc' ls' [] w'
      | _, _ => none
/-! what a run keeps -/
def m_V (w : mW) : Prop := ∀ a k, m_okr w (m_P w a k)
def m_le (w w' : mW) : Prop := m_n w ≤ m_n w' ∧ m_s w ≤ m_s w' ∧ ∀ k, k < m_n w → m_K w' k = m_K w k
def m_inv (w : mW) (ls st : List Value) : Prop := m_V w ∧ (∀ v ∈ ls, m_ok w v) ∧ ∀ v ∈ st, m_ok w v
theorem m_le.rf (w : mW) : m_le w w := ⟨Nat.le_refl _, Nat.le_refl _, fun _ _ => rfl⟩
theorem m_le.tr {w1 w2 w3 : mW} (h1 : m_le w1 w2) (h2 : m_le w2 w3) : m_le w1 w3 := ⟨Nat.le_trans h1.1 h2.1, Nat.le_trans h1.2.1 h2.2.1, fun k hk => (h2.2.2 k (Nat.lt_of_lt_of_le hk h1.1)).trans (h1.2.2 k hk)⟩
theorem m_okr_le {w w' : mW} (h : m_le w w') {a : Nat} (ha : m_okr w a) : m_okr w' a := by
  rcases ha with q | q | ⟨q1, q2, q3⟩
  · exact Or.inl q
  · exact Or.inr (Or.inl q)
  · exact Or.inr (Or.inr ⟨q1, Nat.lt_of_lt_of_le q2 h.1, (h.2.2 _ q2).trans q3⟩)
theorem m_ok_le {w w' : mW} (h : m_le w w') {v : Value} (hv : m_ok w v) : m_ok w' v := by
  cases v with
  | ref a => exact m_okr_le h hv
  | _ => trivial
theorem m_op_ok {w : mW} {ins : Instr} {st t : List Value} (hs : ∀ v ∈ st, m_ok w v) (h : m_op ins st = some t) : ∀ v ∈ t, m_ok w v := by
  unfold m_op at h
  split at h <;>
  first
  | (cases h; exact List.forall_mem_cons.mpr ⟨trivial, hs⟩)
  | (obtain ⟨x, y, r, rfl, rfl⟩ := m_ii_s h; exact List.forall_mem_cons.mpr ⟨trivial, fun v hv => hs v (by simp [hv])⟩)
  | (obtain ⟨x, y, r, rfl, -, rfl⟩ := m_iz_s h; exact List.forall_mem_cons.mpr ⟨trivial, fun v hv => hs v (by simp [hv])⟩)
  | (obtain ⟨x, r, rfl, rfl⟩ := m_i1_s h; exact List.forall_mem_cons.mpr ⟨trivial, fun v hv => hs v (by simp [hv])⟩)
  | (obtain ⟨x, y, r, rfl, rfl⟩ := m_ll_s h; exact List.forall_mem_cons.mpr ⟨trivial, fun v hv => hs v (by simp [hv])⟩)
  | (obtain ⟨x, y, r, rfl, -, rfl⟩ := m_lz_s h; exact List.forall_mem_cons.mpr ⟨trivial, fun v hv => hs v (by simp [hv])⟩)
  | (obtain ⟨x, r, rfl, rfl⟩ := m_l1_s h; exact List.forall_mem_cons.mpr ⟨trivial, fun v hv => hs v (by simp [hv])⟩)
  | (obtain ⟨x, y, r, rfl, rfl⟩ := m_li_s h; exact List.forall_mem_cons.mpr ⟨trivial, fun v hv => hs v (by simp [hv])⟩)
  | (obtain ⟨u, r, rfl, -, rfl⟩ := m_du_s h; intro v hv; exact hs v (by simp at hv ⊢; exact hv))
  | (obtain ⟨u, z, r, rfl, -, -, rfl⟩ := m_d2_s h; intro v hv; exact hs v (by simp at hv ⊢; rcases hv with q | q | q | q | q <;> first | exact Or.inl q | exact Or.inr (Or.inl q) | exact Or.inr (Or.inr q)))
  | (obtain ⟨u, rfl, -⟩ := m_po_s h; intro v hv; exact hs v (by simp [hv]))
  | cases h
theorem m_mem_set {ls : List Value} {i : Nat} {x v : Value} (h : v ∈ ls.set i x) : v = x ∨ v ∈ ls := by
  rcases List.mem_or_eq_of_mem_set h with q | q
  · exact Or.inr q
  · exact Or.inl q
theorem m_kill_mem {ls : List Value} {i : Nat} {v : Value} (h : v ∈ m_kill ls i) : v = .null ∨ v ∈ ls := by
  cases i with
  | zero => exact Or.inr h
  | succ j =>
    rw [m_kill_succ] at h
    split at h
    · split at h
      · exact m_mem_set h
      · exact Or.inr h
    · exact Or.inr h
theorem m_st1_mem {ls : List Value} {i : Nat} {x v : Value} (h : v ∈ m_st1 ls i x) : v = x ∨ v = .null ∨ v ∈ ls := by
  rcases m_mem_set h with q | q
  · exact Or.inl q
  · exact Or.inr (m_kill_mem q)
theorem m_st2_mem {ls : List Value} {i : Nat} {x v : Value} (h : v ∈ m_st2 ls i x) : v = x ∨ v = .null ∨ v ∈ ls := by
  rcases m_mem_set h with q | q
  · exact Or.inr (Or.inl q)
  · exact m_st1_mem q
theorem m_st1_ok {w : mW} {ls : List Value} {i : Nat} {x : Value} (hl : ∀ v ∈ ls, m_ok w v) (hx : m_ok w x) : ∀ v ∈ m_st1 ls i x, m_ok w v := by
  intro v hv
  rcases m_st1_mem hv with q | q | q
  · rw [q]; exact hx
  · rw [q]; trivial
  · exact hl v q
theorem m_st2_ok {w : mW} {ls : List Value} {i : Nat} {x : Value} (hl : ∀ v ∈ ls, m_ok w v) (hx : m_ok w x) : ∀ v ∈ m_st2 ls i x, m_ok w v := by
  intro v hv
  rcases m_st2_mem hv with q | q | q
  · rw [q]; exact hx
  · rw [q]; trivial
  · exact hl v q
theorem m_lo_ok {w : mW} {ins : Instr} {ls ls' st t : List Value} (hl : ∀ v ∈ ls, m_ok w v) (hs : ∀ v ∈ st, m_ok w v) (h : m_lo ins ls st = some (ls', t)) : (∀ v ∈ ls', m_ok w v) ∧ (∀ v ∈ t, m_ok w v) ∧ ls'.length = ls.length := by
  unfold m_lo at h
  split at h <;>
  first
  | (obtain ⟨x, hv, rfl, rfl⟩ := m_ldi_s h; exact ⟨hl, List.forall_mem_cons.mpr ⟨trivial, hs⟩, rfl⟩)
  | (obtain ⟨a, hv, h0, rfl, rfl⟩ := m_lda_s h; exact ⟨hl, List.forall_mem_cons.mpr ⟨hl _ (List.mem_of_getElem? hv), hs⟩, rfl⟩)
  | (obtain ⟨x, hv, rfl, rfl⟩ := m_ldl_s h; exact ⟨hl, List.forall_mem_cons.mpr ⟨trivial, hs⟩, rfl⟩)
  | (obtain ⟨x, rfl, hi, rfl⟩ := m_sti_s h; exact ⟨m_st1_ok hl trivial, fun v hv => hs v (by simp [hv]), m_st1_len _ _ _⟩)
  | (obtain ⟨a, rfl, h0, hi, rfl⟩ := m_sta_s h; exact ⟨m_st1_ok hl (hs _ List.mem_cons_self), fun v hv => hs v (by simp [hv]), m_st1_len _ _ _⟩)
  | (obtain ⟨x, rfl, hi, rfl⟩ := m_stl_s h; exact ⟨m_st2_ok hl trivial, fun v hv => hs v (by simp [hv]), m_st2_len _ _ _⟩)
  | (obtain ⟨x, hv, rfl, rfl⟩ := m_inc_s h; exact ⟨m_st1_ok hl trivial, hs, m_st1_len _ _ _⟩)
  | cases h
theorem m_to_ok {w : mW} {pc pc' : Nat} {off : Int} {st t : List Value} (hs : ∀ v ∈ st, m_ok w v) (h : m_to pc off st = some (pc', t)) : ∀ v ∈ t, m_ok w v := by
  obtain ⟨-, rfl⟩ := m_to_s h
  exact hs
theorem m_if_r (cd : ClassFile.Cond) (t pc : Nat) (x : Int32) (r : List Value) : (m_if cd t pc x r).2 = r := by
  cases cd <;> simp only [m_if] <;> split <;> rfl
theorem m_ic_r (cd : ClassFile.Cond) (t pc : Nat) (x y : Int32) (r : List Value) : (m_ic cd t pc x y r).2 = r := by
  cases cd <;> simp only [m_ic] <;> split <;> rfl
theorem m_br_ok {w : mW} {ins : Instr} {pc pc' : Nat} {st t : List Value} (hs : ∀ v ∈ st, m_ok w v) (h : m_br ins pc st = some (pc', t)) : ∀ v ∈ t, m_ok w v := by
  unfold m_br at h
  split at h
  · exact m_to_ok hs h
  · split at h
    · have h2 := congrArg Prod.snd (Option.some.inj h)
      rw [m_if_r] at h2
      dsimp only at h2
      rw [← h2]
      intro v hv
      exact hs v (by simp [hv])
    · cases h
  · split at h
    · have h2 := congrArg Prod.snd (Option.some.inj h)
      rw [m_ic_r] at h2
      dsimp only at h2
      rw [← h2]
      intro v hv
      exact hs v (by simp [hv])
    · cases h
  · split at h
    · unfold m_ts at h
      split at h
      · exact m_to_ok (fun v hv => hs v (by simp [hv])) h
      · split at h
        · exact m_to_ok (fun v hv => hs v (by simp [hv])) h
        · cases h
    · cases h
  · split at h
    · split at h
      · exact m_to_ok (fun v hv => hs v (by simp [hv])) h
      · cases h
    · cases h
  · cases h
