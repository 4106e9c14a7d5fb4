/-! ===== numbers: the small machine's ints as whole numbers, and a weakest precondition that computes ===== -/
/-- an int, a reference, a long, or nothing -/
abbrev zV : Type := Int ⊕ (Nat ⊕ Option Int)
/-- cells, slots, kinds, lengths, references -/
abbrev zC : Type := Nat × Nat × (Nat → Nat) × (Nat → Nat) × (Nat → Nat → Nat)
abbrev zW : Type := zC × (Nat → Nat → Int) × (Nat → Nat → Int)
abbrev zR : Type := Option zV ⊕ Nat
def z_v (v : zV) : Value := match v with
  | .inl x => .int (Int32.ofInt x)
  | .inr (.inl a) => .ref a
  | .inr (.inr (some j)) => .long (Int64.ofInt j)
  | .inr (.inr none) => .null
def z_w (w : zW) : mW := (w.1.1, w.1.2.1, w.1.2.2.1, w.1.2.2.2.1, (fun a k => Int32.ofInt (w.2.1 a k)), w.1.2.2.2.2, (fun a k => Int64.ofInt (w.2.2 a k)))
def z_r (r : zR) : mR := match r with
  | .inl v => .inl (v.map z_v)
  | .inr e => .inr e
def z_cat (v : zV) : Nat := match v with
  | .inr (.inr (some _)) => 2
  | _ => 1
theorem z_cat_v (v : zV) : (z_v v).category = z_cat v := by
  rcases v with x | a | _ | j <;> rfl
def z_row (f : Nat → Int) (k : Nat) (v : Int) : Nat → Int := fun j => if j = k then v else f j
def z_u (I : Nat → Nat → Int) (a k : Nat) (v : Int) : Nat → Nat → Int := fun i => if i = a then z_row (I a) k v else I i
def z_uP (P : Nat → Nat → Nat) (a k : Nat) (v : Nat) : Nat → Nat → Nat := fun i j => if i = a then (if j = k then v else P i j) else P i j
def z_wI (w : zW) (a k : Nat) (v : Int) : zW := (w.1, z_u w.2.1 a k v, w.2.2)
def z_wJ (w : zW) (a k : Nat) (v : Int) : zW := (w.1, w.2.1, z_u w.2.2 a k v)
def z_wP (w : zW) (a k : Nat) (v : Nat) : zW := ((w.1.1, w.1.2.1, w.1.2.2.1, w.1.2.2.2.1, z_uP w.1.2.2.2.2 a k v), w.2.1, w.2.2)
def z_mk (w : zW) (kd ln sl : Nat) : zW := ((w.1.1 + 1, w.1.2.1 + sl, (fun k => if k = w.1.1 then kd else w.1.2.2.1 k), (fun i => if i = 32 * (w.1.1 + 1) + kd then ln else w.1.2.2.2.1 i), (fun i j => if i = 32 * (w.1.1 + 1) + kd then 0 else w.1.2.2.2.2 i j)),
  (fun i j => if i = 32 * (w.1.1 + 1) + kd then 0 else w.2.1 i j), (fun i j => if i = 32 * (w.1.1 + 1) + kd then 0 else w.2.2 i j))
def z_cpy (w : zW) (a n : Nat) : zW := ((w.1.1 + 1, w.1.2.1 + n, (fun k => if k = w.1.1 then 20 else w.1.2.2.1 k), (fun i => if i = 32 * (w.1.1 + 1) + 20 then n else w.1.2.2.2.1 i), (fun i j => if i = 32 * (w.1.1 + 1) + 20 then 0 else w.1.2.2.2.2 i j)),
  (fun i j => if i = 32 * (w.1.1 + 1) + 20 then (if j < w.1.2.2.2.1 a ∧ j < n then w.2.1 a j else 0) else w.2.1 i j), (fun i j => if i = 32 * (w.1.1 + 1) + 20 then 0 else w.2.2 i j))
theorem z_u_m (I : Nat → Nat → Int) (a k : Nat) (v : Int) : (fun i j => Int32.ofInt (z_u I a k v i j)) = m_u2 (fun i j => Int32.ofInt (I i j)) a k (Int32.ofInt v) := by
  funext i j
  unfold z_u m_u2 z_row
  by_cases h : i = a
  · subst h
    rw [if_pos rfl, if_pos rfl]
    by_cases h2 : j = k
    · rw [if_pos h2, if_pos h2]
    · rw [if_neg h2, if_neg h2]
  · rw [if_neg h, if_neg h]
theorem z_u_mJ (I : Nat → Nat → Int) (a k : Nat) (v : Int) : (fun i j => Int64.ofInt (z_u I a k v i j)) = m_u2 (fun i j => Int64.ofInt (I i j)) a k (Int64.ofInt v) := by
  funext i j
  unfold z_u m_u2 z_row
  by_cases h : i = a
  · subst h
    rw [if_pos rfl, if_pos rfl]
    by_cases h2 : j = k
    · rw [if_pos h2, if_pos h2]
    · rw [if_neg h2, if_neg h2]
  · rw [if_neg h, if_neg h]
theorem z_wI_m (w : zW) (a k : Nat) (v : Int) : z_w (z_wI w a k v) = m_wI (z_w w) a k (Int32.ofInt v) := by
  show (_, _, _, _, (fun i j => Int32.ofInt (z_u w.2.1 a k v i j)), _, _) = _
  rw [z_u_m]
  rfl
theorem z_wJ_m (w : zW) (a k : Nat) (v : Int) : z_w (z_wJ w a k v) = m_wJ (z_w w) a k (Int64.ofInt v) := by
  show (_, _, _, _, _, _, (fun i j => Int64.ofInt (z_u w.2.2 a k v i j))) = _
  rw [z_u_mJ]
  rfl
theorem z_wP_m (w : zW) (a k : Nat) (v : Nat) : z_w (z_wP w a k v) = m_wP (z_w w) a k v := rfl
theorem z_mk_m (w : zW) (kd ln sl : Nat) : z_w (z_mk w kd ln sl) = m_mk (z_w w) kd ln sl := by
  have h1 : (fun i j => Int32.ofInt (if i = 32 * (w.1.1 + 1) + kd then 0 else w.2.1 i j)) = (fun i j => if i = 32 * (w.1.1 + 1) + kd then (0 : Int32) else Int32.ofInt (w.2.1 i j)) := by
    funext i j
    split <;> rfl
  have h2 : (fun i j => Int64.ofInt (if i = 32 * (w.1.1 + 1) + kd then 0 else w.2.2 i j)) = (fun i j => if i = 32 * (w.1.1 + 1) + kd then (0 : Int64) else Int64.ofInt (w.2.2 i j)) := by
    funext i j
    split <;> rfl
  show (_, _, _, _, (fun i j => Int32.ofInt (if i = 32 * (w.1.1 + 1) + kd then 0 else w.2.1 i j)), _, (fun i j => Int64.ofInt (if i = 32 * (w.1.1 + 1) + kd then 0 else w.2.2 i j))) = _
  rw [h1, h2]
  rfl
theorem z_cpy_m (w : zW) (a n : Nat) : z_w (z_cpy w a n) = m_cpy (z_w w) a n := by
  have h1 : (fun i j => Int32.ofInt (if i = 32 * (w.1.1 + 1) + 20 then (if j < w.1.2.2.2.1 a ∧ j < n then w.2.1 a j else 0) else w.2.1 i j)) = (fun i j => if i = 32 * (w.1.1 + 1) + 20 then (if j < w.1.2.2.2.1 a ∧ j < n then Int32.ofInt (w.2.1 a j) else 0) else Int32.ofInt (w.2.1 i j)) := by
    funext i j
    split
    · split <;> rfl
    · rfl
  have h2 : (fun i j => Int64.ofInt (if i = 32 * (w.1.1 + 1) + 20 then 0 else w.2.2 i j)) = (fun i j => if i = 32 * (w.1.1 + 1) + 20 then (0 : Int64) else Int64.ofInt (w.2.2 i j)) := by
    funext i j
    split <;> rfl
  show (_, _, _, _, (fun i j => Int32.ofInt (if i = 32 * (w.1.1 + 1) + 20 then (if j < w.1.2.2.2.1 a ∧ j < n then w.2.1 a j else 0) else w.2.1 i j)), _, (fun i j => Int64.ofInt (if i = 32 * (w.1.1 + 1) + 20 then 0 else w.2.2 i j))) = _
  rw [h1, h2]
  rfl
/-! numbers -/
def inR (x : Int) : Prop := -2147483648 ≤ x ∧ x < 2147483648
def inL (x : Int) : Prop := -9223372036854775808 ≤ x ∧ x < 9223372036854775808
def wr (x : Int) : Int := (Int32.ofInt x).toInt
theorem wr_id {x : Int} (h : inR x) : wr x = x := Int32.toInt_ofInt_of_le h.1 h.2
theorem wr_in (x : Int) : inR (wr x) := ⟨Int32.le_toInt _, Int32.toInt_lt _⟩
theorem wr_of (x : Int) : Int32.ofInt (wr x) = Int32.ofInt x := Int32.ofInt_toInt _
def zand (x y : Int) : Int := (Int32.ofInt x &&& Int32.ofInt y).toInt
def zor (x y : Int) : Int := (Int32.ofInt x ||| Int32.ofInt y).toInt
def zxor (x y : Int) : Int := (Int32.ofInt x ^^^ Int32.ofInt y).toInt
def zshl (x y : Int) : Int := (Int32.ofInt x <<< (Int32.ofInt y &&& 31)).toInt
def zshr (x y : Int) : Int := (Int32.ofInt x >>> (Int32.ofInt y &&& 31)).toInt
def zush (x y : Int) : Int := ((Int32.ofInt x).toUInt32 >>> ((Int32.ofInt y).toUInt32 &&& Int32.toUInt32 31)).toInt32.toInt
def z2b (x : Int) : Int := ((Int32.ofInt x).toInt8.toInt32).toInt
def zlor (x y : Int) : Int := (Int64.ofInt x ||| Int64.ofInt y).toInt
def zlsh (x y : Int) : Int := (Int64.ofInt x <<< ((Int32.ofInt y).toInt64 &&& 63)).toInt
def zlc (x y : Int) : Int := if x < y then -1 else if x = y then 0 else 1
def znb (x : Int) : Int := (vp_nar .byte (Int32.ofInt x)).toInt
def znz (x : Int) : Int := (vp_nar .boolean (Int32.ofInt x)).toInt
def z_ii (f : Int → Int → Int) (st : List zV) : Option (List zV) := match st with
  | .inl y :: .inl x :: r => some (.inl (f x y) :: r)
  | _ => none
def z_ll (f : Int → Int → Int) (st : List zV) : Option (List zV) := match st with
  | .inr (.inr (some y)) :: .inr (.inr (some x)) :: r => some (.inr (.inr (some (f x y))) :: r)
  | _ => none
/-- stack alone, nothing owed -/
def z_op0 (ins : Instr) (st : List zV) : Option (List zV) := match ins with
  | .iconst n => some (.inl n :: st)
  | .bipush n => if -128 ≤ n ∧ n < 128 then some (.inl n :: st) else none
  | .sipush n => if -32768 ≤ n ∧ n < 32768 then some (.inl n :: st) else none
  | .lconst n => some (.inr (.inr (some ((n : Nat) : Int))) :: st)
  | .iadd => z_ii (fun x y => x + y) st
  | .isub => z_ii (fun x y => x - y) st
  | .imul => z_ii (fun x y => x * y) st
  | .iand => z_ii zand st
  | .ior => z_ii zor st
  | .ixor => z_ii zxor st
  | .ishl => z_ii zshl st
  | .ishr => z_ii zshr st
  | .iushr => z_ii zush st
  | .ineg => match st with
    | .inl x :: r => some (.inl (-x) :: r)
    | _ => none
  | .i2b => match st with
    | .inl x :: r => some (.inl (z2b x) :: r)
    | _ => none
  | .l2i => match st with
    | .inr (.inr (some x)) :: r => some (.inl x :: r)
    | _ => none
  | .ladd => z_ll (fun x y => x + y) st
  | .lmul => z_ll (fun x y => x * y) st
  | .lor => z_ll zlor st
  | .lshl => match st with
    | .inl y :: .inr (.inr (some x)) :: r => some (.inr (.inr (some (zlsh x y))) :: r)
    | _ => none
  | .dup => match st with
    | .inl x :: r => some (.inl x :: .inl x :: r)
    | .inr (.inl a) :: r => some (.inr (.inl a) :: .inr (.inl a) :: r)
    | _ => none
  | .dup2 => match st with
    | .inl x :: .inr (.inl a) :: r => some (.inl x :: .inr (.inl a) :: .inl x :: .inr (.inl a) :: r)
    | _ => none
  | .pop => match st with
    | .inl _ :: r => some r
    | _ => none
  | _ => none
/-- stack alone, with what is owed; f: numbers that may wrap -/
def z_op1 (f : Bool) (ins : Instr) (st : List zV) : Option (Prop × List zV) := match ins with
  | .i2l => match st with
    | .inl x :: r => some (inR x, .inr (.inr (some x)) :: r)
    | _ => none
  | .idiv => match st with
    | .inl y :: .inl x :: r => cond f (some (¬ wr y = 0, .inl (Int.tdiv (wr x) (wr y)) :: r)) (some (inR x ∧ inR y ∧ ¬ y = 0, .inl (Int.tdiv x y) :: r))
    | _ => none
  | .irem => match st with
    | .inl y :: .inl x :: r => some (inR x ∧ inR y ∧ ¬ y = 0, .inl (x - Int.tdiv x y * y) :: r)
    | _ => none
  | .ldiv => match st with
    | .inr (.inr (some y)) :: .inr (.inr (some x)) :: r => some (inL x ∧ inL y ∧ ¬ y = 0, .inr (.inr (some (Int.tdiv x y))) :: r)
    | _ => none
  | .lcmp => match st with
    | .inr (.inr (some y)) :: .inr (.inr (some x)) :: r => some (inL x ∧ inL y, .inl (zlc x y) :: r)
    | _ => none
  | _ => none
theorem z_map2 {st t : List zV} {f : Int → Int → Int} {g : Int32 → Int32 → Value} (hf : ∀ x y, g (Int32.ofInt x) (Int32.ofInt y) = z_v (.inl (f x y))) (h : z_ii f st = some t) : m_ii g (st.map z_v) = some (t.map z_v) := by
  unfold z_ii at h
  split at h
  · cases h
    simp only [List.map_cons, z_v, m_ii, hf]
  · cases h
theorem z_mapl {st t : List zV} {f : Int → Int → Int} {g : Int64 → Int64 → Value} (hf : ∀ x y, g (Int64.ofInt x) (Int64.ofInt y) = z_v (.inr (.inr (some (f x y))))) (h : z_ll f st = some t) : m_ll g (st.map z_v) = some (t.map z_v) := by
  unfold z_ll at h
  split at h
  · cases h
    simp only [List.map_cons, z_v, m_ll, hf]
  · cases h
theorem z_i8 {n : Int} (h1 : -128 ≤ n) (h2 : n < 128) : (Int8.ofInt n).toInt32 = Int32.ofInt n := by
  rw [← Int32.ofInt_int8ToInt, Int8.toInt_ofInt_of_le h1 h2]
theorem z_i16 {n : Int} (h1 : -32768 ≤ n) (h2 : n < 32768) : (Int16.ofInt n).toInt32 = Int32.ofInt n := by
  rw [← Int32.ofInt_int16ToInt, Int16.toInt_ofInt_of_le h1 h2]
theorem z_l2i (j : Int) : (Int64.ofInt j).toInt32 = Int32.ofInt j := by
  rw [← Int32.ofInt_int64ToInt]
  apply Int32.toInt_inj.mp
  rw [Int32.toInt_ofInt, Int32.toInt_ofInt, Int64.toInt_ofInt]
  exact Int.bmod_bmod_of_dvd (by decide)
theorem z_op0_m {ins : Instr} {st t : List zV} (h : z_op0 ins st = some t) : m_op ins (st.map z_v) = some (t.map z_v) := by
  unfold z_op0 at h
  split at h <;> unfold m_op
  · cases h; rfl
  · split at h
    · rename_i hq; cases h; simp only [z_i8 hq.1 hq.2, List.map_cons, z_v]
    · cases h
  · split at h
    · rename_i hq; cases h; simp only [z_i16 hq.1 hq.2, List.map_cons, z_v]
    · cases h
  · cases h; simp only [List.map_cons, z_v, Int64.ofInt_eq_ofNat]
  · exact z_map2 (fun x y => by simp only [z_v, Int32.ofInt_add]) h
  · exact z_map2 (fun x y => by simp only [z_v, Int32.ofInt_sub]) h
  · exact z_map2 (fun x y => by simp only [z_v, Int32.ofInt_mul]) h
  · exact z_map2 (fun x y => by simp only [z_v, zand, Int32.ofInt_toInt]) h
  · exact z_map2 (fun x y => by simp only [z_v, zor, Int32.ofInt_toInt]) h
  · exact z_map2 (fun x y => by simp only [z_v, zxor, Int32.ofInt_toInt]) h
  · exact z_map2 (fun x y => by simp only [z_v, zshl, Int32.ofInt_toInt]) h
  · exact z_map2 (fun x y => by simp only [z_v, zshr, Int32.ofInt_toInt]) h
  · exact z_map2 (fun x y => by simp only [z_v, zush, Int32.ofInt_toInt]) h
  · split at h
    · cases h; simp only [List.map_cons, z_v, m_i1, Int32.ofInt_neg]
    · cases h
  · split at h
    · cases h; simp only [List.map_cons, z_v, m_i1, z2b, Int32.ofInt_toInt]
    · cases h
  · split at h
    · cases h; simp only [List.map_cons, z_v, m_l1, z_l2i]
    · cases h
  · exact z_mapl (fun x y => by simp only [z_v, Int64.ofInt_add]) h
  · exact z_mapl (fun x y => by simp only [z_v, Int64.ofInt_mul]) h
  · exact z_mapl (fun x y => by simp only [z_v, zlor, Int64.ofInt_toInt]) h
  · split at h
    · cases h; simp only [List.map_cons, z_v, m_li, zlsh, Int64.ofInt_toInt]
    · cases h
  · split at h
    · cases h; simp [z_v, m_du, Value.category]
    · cases h; simp [z_v, m_du, Value.category]
    · cases h
  · split at h
    · cases h; simp [z_v, m_d2, Value.category]
    · cases h
  · split at h
    · cases h; simp [z_v, m_po, Value.category]
    · cases h
  · cases h
theorem z_ne0 {y : Int} (h : inR y) (h0 : ¬ y = 0) : ¬ Int32.ofInt y = 0 := by
  intro q
  have z := congrArg Int32.toInt q
  rw [Int32.toInt_ofInt_of_le h.1 h.2] at z
  exact h0 z
theorem z_div {x y : Int} (hx : inR x) (hy : inR y) : Int32.ofInt (Int.tdiv x y) = Int32.ofInt x / Int32.ofInt y := Int32.ofInt_tdiv hx.1 (by have := hx.2; show x ≤ 2147483647; omega) hy.1 (by have := hy.2; show y ≤ 2147483647; omega)
theorem z_lcm {x y : Int} (hx : inL x) (hy : inL y) : lg_cmp (Int64.ofInt x) (Int64.ofInt y) = Int32.ofInt (zlc x y) := by
  have e1 : (Int64.ofInt x).toInt = x := Int64.toInt_ofInt_of_le hx.1 hx.2
  have e2 : (Int64.ofInt y).toInt = y := Int64.toInt_ofInt_of_le hy.1 hy.2
  have e3 : (Int64.ofInt x < Int64.ofInt y) ↔ x < y := by rw [Int64.lt_iff_toInt_lt, e1, e2]
  have e4 : (Int64.ofInt y < Int64.ofInt x) ↔ y < x := by rw [Int64.lt_iff_toInt_lt, e1, e2]
  have e5 : (Int64.ofInt x = Int64.ofInt y) ↔ x = y := by rw [← Int64.toInt_inj, e1, e2]
  unfold lg_cmp zlc
  simp only [gt_iff_lt, e3, e4, e5]
  repeat' split
  all_goals first | rfl | omega
theorem z_op1_m {f : Bool} {ins : Instr} {st t : List zV} {c : Prop} (h : z_op1 f ins st = some (c, t)) (hc : c) : m_op ins (st.map z_v) = some (t.map z_v) := by
  unfold z_op1 at h
  split at h <;> unfold m_op
  · split at h
    · cases h
      simp only [List.map_cons, z_v, m_i1]
      rw [show (Int32.ofInt _).toInt64 = Int64.ofInt _ from by rw [← Int64.ofInt_int32ToInt, Int32.toInt_ofInt_of_le hc.1 hc.2]]
    · cases h
  · split at h
    · cases f
      · cases h
        obtain ⟨h1, h2, h3⟩ := hc
        simp only [List.map_cons, z_v, m_iz, if_neg (z_ne0 h2 h3), z_div h1 h2]
      · cases h
        rename_i y x r
        have h0 : ¬ Int32.ofInt y = 0 := fun q => hc (by unfold wr; rw [q]; rfl)
        simp only [List.map_cons, z_v, m_iz, if_neg h0, z_div (wr_in x) (wr_in y), wr_of]
    · cases h
  · split at h
    · cases h
      obtain ⟨h1, h2, h3⟩ := hc
      simp only [List.map_cons, z_v, m_iz, if_neg (z_ne0 h2 h3), Int32.ofInt_sub, Int32.ofInt_mul, z_div h1 h2]
    · cases h
  · split at h
    · cases h
      rename_i y x r
      obtain ⟨h1, h2, h3⟩ := hc
      have h0 : ¬ Int64.ofInt y = 0 := fun q => h3 (by
        have z := congrArg Int64.toInt q
        rw [Int64.toInt_ofInt_of_le h2.1 h2.2] at z
        exact z)
      have hd : Int64.ofInt (Int.tdiv x y) = Int64.ofInt x / Int64.ofInt y := Int64.ofInt_tdiv h1.1 (by have := h1.2; show x ≤ 9223372036854775807; omega) h2.1 (by have := h2.2; show y ≤ 9223372036854775807; omega)
      simp only [List.map_cons, z_v, m_lz, if_neg h0, hd]
    · cases h
  · split at h
    · cases h
      obtain ⟨h1, h2⟩ := hc
      simp only [List.map_cons, z_v, m_ll, z_lcm h1 h2]
    · cases h
  · cases h
