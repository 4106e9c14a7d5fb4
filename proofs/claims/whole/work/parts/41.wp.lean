/-! locals, branches, and the weakest precondition -/
def z_kill (ls : List zV) (i : Nat) : List zV := match i with
  | 0 => ls
  | j + 1 => match ls[j]? with
    | some (.inr (.inr (some _))) => ls.set j (.inr (.inr none))
    | _ => ls
def z_st1 (ls : List zV) (i : Nat) (v : zV) : List zV := (z_kill ls i).set i v
def z_st2 (ls : List zV) (i : Nat) (v : zV) : List zV := ((z_kill ls i).set i v).set (i + 1) (.inr (.inr none))
theorem z_kill_m (ls : List zV) (i : Nat) : (z_kill ls i).map z_v = m_kill (ls.map z_v) i := by
  cases i with
  | zero => rfl
  | succ j =>
    rw [m_kill_succ, List.getElem?_map]
    show (match ls[j]? with
      | some (.inr (.inr (some _))) => ls.set j (.inr (.inr none))
      | _ => ls).map z_v = _
    cases h : ls[j]? with
    | none => rfl
    | some v =>
      rcases v with x | a | _ | q
      · rfl
      · rfl
      · simp [z_v, Value.category]
      · simp [z_v, Value.category, List.map_set]
theorem z_st1_m (ls : List zV) (i : Nat) (v : zV) : (z_st1 ls i v).map z_v = m_st1 (ls.map z_v) i (z_v v) := by
  unfold z_st1 m_st1
  rw [List.map_set, z_kill_m]
theorem z_st2_m (ls : List zV) (i : Nat) (v : zV) : (z_st2 ls i v).map z_v = m_st2 (ls.map z_v) i (z_v v) := by
  unfold z_st2 m_st2
  rw [List.map_set, List.map_set, z_kill_m]
  rfl
def z_ldi (ls : List zV) (i : Nat) (st : List zV) : Option (List zV × List zV) := match ls[i]? with
  | some (.inl x) => some (ls, .inl x :: st)
  | _ => none
def z_lda (ls : List zV) (i : Nat) (st : List zV) : Option (List zV × List zV) := match ls[i]? with
  | some (.inr (.inl a)) => cond (Nat.beq a 0) none (some (ls, .inr (.inl a) :: st))
  | _ => none
def z_ldl (ls : List zV) (i : Nat) (st : List zV) : Option (List zV × List zV) := match ls[i]? with
  | some (.inr (.inr (some x))) => some (ls, .inr (.inr (some x)) :: st)
  | _ => none
def z_sti (ls : List zV) (i : Nat) (st : List zV) : Option (List zV × List zV) := match st with
  | .inl x :: r => cond (Nat.blt i ls.length) (some (z_st1 ls i (.inl x), r)) none
  | _ => none
def z_sta (ls : List zV) (i : Nat) (st : List zV) : Option (List zV × List zV) := match st with
  | .inr (.inl a) :: r => cond (Nat.beq a 0) none (cond (Nat.blt i ls.length) (some (z_st1 ls i (.inr (.inl a)), r)) none)
  | _ => none
def z_stl (ls : List zV) (i : Nat) (st : List zV) : Option (List zV × List zV) := match st with
  | .inr (.inr (some x)) :: r => cond (Nat.blt (i + 1) ls.length) (some (z_st2 ls i (.inr (.inr (some x))), r)) none
  | _ => none
def z_inc (ls : List zV) (i : Nat) (n : Int) (st : List zV) : Option (List zV × List zV) := match ls[i]? with
  | some (.inl x) => some (z_st1 ls i (.inl (x + n)), st)
  | _ => none
def z_lo (ins : Instr) (ls st : List zV) : Option (List zV × List zV) := match ins with
  | .iload_n k => z_ldi ls (k : Nat) st
  | .iload i => z_ldi ls i st
  | .aload_n k => z_lda ls (k : Nat) st
  | .aload i => z_lda ls i st
  | .lload_n k => z_ldl ls (k : Nat) st
  | .lload i => z_ldl ls i st
  | .istore_n k => z_sti ls (k : Nat) st
  | .istore i => z_sti ls i st
  | .astore_n k => z_sta ls (k : Nat) st
  | .astore i => z_sta ls i st
  | .lstore_n k => z_stl ls (k : Nat) st
  | .lstore i => z_stl ls i st
  | .iinc i n => z_inc ls i n st
  | _ => none
theorem z_ldi_m {ls ls' st t : List zV} {i : Nat} (h : z_ldi ls i st = some (ls', t)) : m_ldi (ls.map z_v) i (st.map z_v) = some (ls'.map z_v, t.map z_v) := by
  unfold z_ldi at h
  unfold m_ldi
  rw [List.getElem?_map]
  split at h
  · rename_i x hx; cases h; rw [hx]; rfl
  · cases h
theorem z_lda_m {ls ls' st t : List zV} {i : Nat} (h : z_lda ls i st = some (ls', t)) : m_lda (ls.map z_v) i (st.map z_v) = some (ls'.map z_v, t.map z_v) := by
  unfold z_lda at h
  unfold m_lda
  rw [List.getElem?_map]
  split at h
  · rename_i a hx
    cases hb : Nat.beq a 0
    · rw [hb] at h
      cases h
      rw [hx]
      have h0 : ¬ a = 0 := fun q => by rw [q] at hb; cases hb
      simp only [Option.map_some, z_v, if_neg h0, List.map_cons]
    · rw [hb] at h; cases h
  · cases h
theorem z_ldl_m {ls ls' st t : List zV} {i : Nat} (h : z_ldl ls i st = some (ls', t)) : m_ldl (ls.map z_v) i (st.map z_v) = some (ls'.map z_v, t.map z_v) := by
  unfold z_ldl at h
  unfold m_ldl
  rw [List.getElem?_map]
  split at h
  · rename_i x hx; cases h; rw [hx]; rfl
  · cases h
theorem z_blt {i n : Nat} (h : Nat.blt i n = true) : i < n := Nat.le_of_ble_eq_true h
theorem z_sti_m {ls ls' st t : List zV} {i : Nat} (h : z_sti ls i st = some (ls', t)) : m_sti (ls.map z_v) i (st.map z_v) = some (ls'.map z_v, t.map z_v) := by
  unfold z_sti at h
  unfold m_sti
  split at h
  · cases hb : Nat.blt i ls.length
    · rw [hb] at h; cases h
    · rw [hb] at h
      cases h
      simp only [List.map_cons, z_v, List.length_map, if_pos (z_blt hb), z_st1_m]
  · cases h
theorem z_sta_m {ls ls' st t : List zV} {i : Nat} (h : z_sta ls i st = some (ls', t)) : m_sta (ls.map z_v) i (st.map z_v) = some (ls'.map z_v, t.map z_v) := by
  unfold z_sta at h
  unfold m_sta
  split at h
  · rename_i a r
    cases ha : Nat.beq a 0
    · have h0 : ¬ a = 0 := fun q => by rw [q] at ha; cases ha
      cases hb : Nat.blt i ls.length
      · rw [ha, hb] at h; cases h
      · rw [ha, hb] at h
        cases h
        simp only [List.map_cons, z_v, List.length_map, if_pos (z_blt hb), if_neg h0, z_st1_m]
    · rw [ha] at h; cases h
  · cases h
theorem z_stl_m {ls ls' st t : List zV} {i : Nat} (h : z_stl ls i st = some (ls', t)) : m_stl (ls.map z_v) i (st.map z_v) = some (ls'.map z_v, t.map z_v) := by
  unfold z_stl at h
  unfold m_stl
  split at h
  · cases hb : Nat.blt (i + 1) ls.length
    · rw [hb] at h; cases h
    · rw [hb] at h
      cases h
      simp only [List.map_cons, z_v, List.length_map, if_pos (z_blt hb), z_st2_m]
  · cases h
theorem z_inc_m {ls ls' st t : List zV} {i : Nat} {n : Int} (h : z_inc ls i n st = some (ls', t)) : m_inc (ls.map z_v) i n (st.map z_v) = some (ls'.map z_v, t.map z_v) := by
  unfold z_inc at h
  unfold m_inc
  rw [List.getElem?_map]
  split at h
  · rename_i x hx
    cases h
    rw [hx]
    simp only [Option.map_some, z_v, z_st1_m, Int32.ofInt_add]
  · cases h
theorem z_lo_m {ins : Instr} {ls ls' st t : List zV} (h : z_lo ins ls st = some (ls', t)) : m_lo ins (ls.map z_v) (st.map z_v) = some (ls'.map z_v, t.map z_v) := by
  unfold z_lo at h
  split at h <;> unfold m_lo <;> first | exact z_ldi_m h | exact z_lda_m h | exact z_ldl_m h | exact z_sti_m h | exact z_sta_m h | exact z_stl_m h | exact z_inc_m h | cases h
theorem z_op0_lo {ins : Instr} {st t : List zV} (h : z_op0 ins st = some t) (ls : List Value) (u : List Value) : m_lo ins ls u = none := by
  cases ins <;> first | rfl | cases h
/-! branches: the wanted of each way -/
def z_if (f : Bool) (cd : ClassFile.Cond) (x : Int) (A B : Prop) : Prop := cond f
  (match cd with
  | .eq => (wr x = 0 → A) ∧ (¬ wr x = 0 → B)
  | .ne => (wr x = 0 → B) ∧ (¬ wr x = 0 → A)
  | .lt => (wr x < 0 → A) ∧ (¬ wr x < 0 → B)
  | .ge => (wr x < 0 → B) ∧ (¬ wr x < 0 → A)
  | .gt => (0 < wr x → A) ∧ (¬ 0 < wr x → B)
  | .le => (0 < wr x → B) ∧ (¬ 0 < wr x → A))
  (inR x ∧ match cd with
  | .eq => (x = 0 → A) ∧ (¬ x = 0 → B)
  | .ne => (x = 0 → B) ∧ (¬ x = 0 → A)
  | .lt => (x < 0 → A) ∧ (¬ x < 0 → B)
  | .ge => (x < 0 → B) ∧ (¬ x < 0 → A)
  | .gt => (0 < x → A) ∧ (¬ 0 < x → B)
  | .le => (0 < x → B) ∧ (¬ 0 < x → A))
def z_ic (f : Bool) (cd : ClassFile.Cond) (x y : Int) (A B : Prop) : Prop := cond f
  (match cd with
  | .eq => (wr x = wr y → A) ∧ (¬ wr x = wr y → B)
  | .ne => (wr x = wr y → B) ∧ (¬ wr x = wr y → A)
  | .lt => (wr x < wr y → A) ∧ (¬ wr x < wr y → B)
  | .ge => (wr x < wr y → B) ∧ (¬ wr x < wr y → A)
  | .gt => (wr y < wr x → A) ∧ (¬ wr y < wr x → B)
  | .le => (wr y < wr x → B) ∧ (¬ wr y < wr x → A))
  (inR x ∧ inR y ∧ match cd with
  | .eq => (x = y → A) ∧ (¬ x = y → B)
  | .ne => (x = y → B) ∧ (¬ x = y → A)
  | .lt => (x < y → A) ∧ (¬ x < y → B)
  | .ge => (x < y → B) ∧ (¬ x < y → A)
  | .gt => (y < x → A) ∧ (¬ y < x → B)
  | .le => (y < x → B) ∧ (¬ y < x → A))
def z_tsw (pc : Nat) (x : Int) (k : Nat → Prop) : Int → List Int → Prop
  | _, [] => True
  | lo, off :: t => (match m_tg pc off with
    | some q => (x = lo → k q)
    | none => False) ∧ z_tsw pc x k (lo + 1) t
def z_br (f : Bool) (ins : Instr) (pc : Nat) (st : List zV) (k : Nat → List zV → Prop) : Prop := match ins with
  | .goto off => match m_tg pc off with
    | some t => k t st
    | none => False
  | .ifCond cd off => match m_tg pc off, st with
    | some t, .inl x :: r => z_if f cd x (k t r) (k (pc + 3) r)
    | _, _ => False
  | .if_icmp cd off => match m_tg pc off, st with
    | some t, .inl y :: .inl x :: r => z_ic f cd x y (k t r) (k (pc + 3) r)
    | _, _ => False
  | .tableswitch d lo hi offs => match m_tg pc d, st with
    | some t, .inl x :: r => inR x ∧ cond (decide (hi = lo + offs.toList.length - 1)) (z_tsw pc x (fun q => k q r) lo offs.toList ∧ (x < lo ∨ hi < x → k t r)) False
    | _, _ => False
  | _ => False
theorem z_eq0 (x : Int) : Int32.ofInt x = 0 ↔ wr x = 0 := by
  rw [← Int32.toInt_inj]
  exact Iff.rfl
theorem z_eqc (x y : Int) : Int32.ofInt x = Int32.ofInt y ↔ wr x = wr y := by
  rw [← Int32.toInt_inj]
  exact Iff.rfl
theorem z_lt0 (x : Int) : Int32.ofInt x < 0 ↔ wr x < 0 := by
  rw [Int32.lt_iff_toInt_lt]
  exact Iff.rfl
theorem z_gt0 (x : Int) : 0 < Int32.ofInt x ↔ 0 < wr x := by
  rw [Int32.lt_iff_toInt_lt]
  exact Iff.rfl
theorem z_ge0 (x : Int) : 0 ≤ Int32.ofInt x ↔ ¬ wr x < 0 := by
  rw [Int32.le_iff_toInt_le]
  show 0 ≤ wr x ↔ _
  omega
theorem z_le0 (x : Int) : Int32.ofInt x ≤ 0 ↔ ¬ 0 < wr x := by
  rw [Int32.le_iff_toInt_le]
  show wr x ≤ 0 ↔ _
  omega
theorem z_ltc (x y : Int) : Int32.ofInt x < Int32.ofInt y ↔ wr x < wr y := by
  rw [Int32.lt_iff_toInt_lt]
  exact Iff.rfl
theorem z_lec (x y : Int) : Int32.ofInt x ≤ Int32.ofInt y ↔ ¬ wr y < wr x := by
  rw [Int32.le_iff_toInt_le]
  show wr x ≤ wr y ↔ _
  omega
theorem z_if_w {f : Bool} {cd : ClassFile.Cond} {x : Int} {A B : Prop} (h : z_if f cd x A B) : z_if true cd x A B := by
  cases f with
  | true => exact h
  | false =>
    obtain ⟨h0, h⟩ := h
    unfold z_if
    rw [wr_id h0]
    exact h
theorem z_ic_w {f : Bool} {cd : ClassFile.Cond} {x y : Int} {A B : Prop} (h : z_ic f cd x y A B) : z_ic true cd x y A B := by
  cases f with
  | true => exact h
  | false =>
    obtain ⟨h0, h1, h⟩ := h
    unfold z_ic
    rw [wr_id h0, wr_id h1]
    exact h
theorem z_if_m {f : Bool} {cd : ClassFile.Cond} {x : Int} {A B : Prop} {t pc : Nat} {r : List Value} (h : z_if f cd x A B) : (m_if cd t pc (Int32.ofInt x) r = (t, r) ∧ A) ∨ (m_if cd t pc (Int32.ofInt x) r = (pc + 3, r) ∧ B) := by
  have h2 := z_if_w h
  cases cd <;> simp only [z_if, cond_true] at h2 <;> simp only [m_if, z_eq0, z_lt0, z_gt0, z_ge0, z_le0]
  · by_cases q : wr x = 0
    · exact Or.inl ⟨if_pos q, h2.1 q⟩
    · exact Or.inr ⟨if_neg q, h2.2 q⟩
  · by_cases q : wr x = 0
    · exact Or.inr ⟨if_pos q, h2.1 q⟩
    · exact Or.inl ⟨if_neg q, h2.2 q⟩
  · by_cases q : wr x < 0
    · exact Or.inl ⟨if_pos q, h2.1 q⟩
    · exact Or.inr ⟨if_neg q, h2.2 q⟩
  · by_cases q : wr x < 0
    · exact Or.inr ⟨if_neg (fun z => z q), h2.1 q⟩
    · exact Or.inl ⟨if_pos q, h2.2 q⟩
  · by_cases q : 0 < wr x
    · exact Or.inl ⟨if_pos q, h2.1 q⟩
    · exact Or.inr ⟨if_neg q, h2.2 q⟩
  · by_cases q : 0 < wr x
    · exact Or.inr ⟨if_neg (fun z => z q), h2.1 q⟩
    · exact Or.inl ⟨if_pos q, h2.2 q⟩
theorem z_ic_m {f : Bool} {cd : ClassFile.Cond} {x y : Int} {A B : Prop} {t pc : Nat} {r : List Value} (h : z_ic f cd x y A B) : (m_ic cd t pc (Int32.ofInt x) (Int32.ofInt y) r = (t, r) ∧ A) ∨ (m_ic cd t pc (Int32.ofInt x) (Int32.ofInt y) r = (pc + 3, r) ∧ B) := by
  have h2 := z_ic_w h
  cases cd <;> simp only [z_ic, cond_true] at h2 <;> simp only [m_ic, z_eqc, z_ltc, z_lec]
  · by_cases q : wr x = wr y
    · exact Or.inl ⟨if_pos q, h2.1 q⟩
    · exact Or.inr ⟨if_neg q, h2.2 q⟩
  · by_cases q : wr x = wr y
    · exact Or.inr ⟨if_pos q, h2.1 q⟩
    · exact Or.inl ⟨if_neg q, h2.2 q⟩
  · by_cases q : wr x < wr y
    · exact Or.inl ⟨if_pos q, h2.1 q⟩
    · exact Or.inr ⟨if_neg q, h2.2 q⟩
  · by_cases q : wr x < wr y
    · exact Or.inr ⟨if_neg (fun z => z q), h2.1 q⟩
    · exact Or.inl ⟨if_pos q, h2.2 q⟩
  · by_cases q : wr y < wr x
    · exact Or.inl ⟨if_pos q, h2.1 q⟩
    · exact Or.inr ⟨if_neg q, h2.2 q⟩
  · by_cases q : wr y < wr x
    · exact Or.inr ⟨if_neg (fun z => z q), h2.1 q⟩
    · exact Or.inl ⟨if_pos q, h2.2 q⟩
theorem z_tsw_m {pc : Nat} {x : Int} {k : Nat → Prop} : ∀ (offs : List Int) (lo : Int) (j : Nat) (off : Int), z_tsw pc x k lo offs → offs[j]? = some off → x = lo + j → ∃ q, m_tg pc off = some q ∧ k q := by
  intro offs
  induction offs with
  | nil => intro lo j off _ h; simp at h
  | cons a t ih =>
    intro lo j off h hj hx
    obtain ⟨h1, h2⟩ := h
    cases j with
    | zero =>
      simp at hj
      subst hj
      cases hm : m_tg pc a with
      | none => rw [hm] at h1; exact h1.elim
      | some q => rw [hm] at h1; exact ⟨q, rfl, h1 (by omega)⟩
    | succ j => exact ih (lo + 1) j off h2 (by simpa using hj) (by omega)
theorem z_br_m {f : Bool} {ins : Instr} {pc : Nat} {st : List zV} {k : Nat → List zV → Prop} (h : z_br f ins pc st k) : ∃ (pc' : Nat) (t : List zV), m_br ins pc (st.map z_v) = some (pc', t.map z_v) ∧ k pc' t := by
  unfold z_br at h
  split at h <;> unfold m_br
  · split at h
    · rename_i t ht
      exact ⟨t, st, by simp only [m_to, ht], h⟩
    · exact h.elim
  · split at h
    · rename_i t x r ht
      simp only [ht, List.map_cons, z_v]
      rcases z_if_m (t := t) (pc := pc) (r := r.map z_v) h with ⟨e, hk⟩ | ⟨e, hk⟩
      · exact ⟨t, r, by rw [e], hk⟩
      · exact ⟨pc + 3, r, by rw [e], hk⟩
    · exact h.elim
  · split at h
    · rename_i t y x r ht
      simp only [ht, List.map_cons, z_v]
      rcases z_ic_m (t := t) (pc := pc) (r := r.map z_v) h with ⟨e, hk⟩ | ⟨e, hk⟩
      · exact ⟨t, r, by rw [e], hk⟩
      · exact ⟨pc + 3, r, by rw [e], hk⟩
    · exact h.elim
  · rename_i d lo hi offs
    split at h
    · rename_i t x r ht
      obtain ⟨h0, h⟩ := h
      cases hq : decide (hi = lo + offs.toList.length - 1) with
      | false => rw [hq] at h; exact h.elim
      | true =>
        rw [hq] at h
        have hl := of_decide_eq_true hq
        obtain ⟨h1, h2⟩ := h
        simp only [List.map_cons, z_v]
        unfold m_ts
        have ew : (Int32.ofInt x).toInt = x := wr_id h0
        rw [ew]
        by_cases hx : x < lo ∨ hi < x
        · rw [if_pos hx]
          exact ⟨t, r, by simp only [m_to, ht], h2 hx⟩
        · rw [if_neg hx]
          have hlt : (x - lo).toNat < offs.toList.length := by omega
          have e1 : offs.toList[(x - lo).toNat]? = some (offs.toList[(x - lo).toNat]) := List.getElem?_eq_getElem hlt
          have e2 : offs[(x - lo).toNat]? = some (offs.toList[(x - lo).toNat]) := by rw [← e1]; simp
          rw [e2]
          obtain ⟨q, q1, q2⟩ := z_tsw_m _ _ _ _ h1 e1 (by omega)
          exact ⟨q, r, by simp only [m_to, q1], q2⟩
    · exact h.elim
  · exact h.elim
