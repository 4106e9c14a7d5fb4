/-! one instruction -/
def x_mk (w : zX) (kd ln sl nf : Nat) : zX := (z_nl w.1 kd ln nf, w.2.1 + sl, z_zr w.2.2.1 (32 * (w.1.length + 1) + kd), z_zr w.2.2.2 (32 * (w.1.length + 1) + kd))
theorem x_mk_m (w : zX) (kd ln sl nf : Nat) (hk : kd < 32) : z_x (x_mk w kd ln sl nf) = z_mk (z_x w) kd ln sl := (z_nl_m _ _ _ _ _ _ _ _ hk).symm
theorem m_akd_lt (ty : ArrayType) : m_akd ty < 32 := by cases ty <;> decide
def z_nt (x : List Nat) (st : List zV) (w : zX) (k : List zV → zX → Prop) (Q : zR → zW → Prop) : Prop := match x with
  | 0 :: ci :: _ => cond (Nat.blt ci 11) (k (.inr (.inl (32 * (w.1.length + 1) + (ci + 1))) :: st) (x_mk w (ci + 1) 0 (m_NF ci) (m_NF ci))) False
  | 1 :: e :: _ => cond (Nat.ble (st.map z_cat).sum 8) (Q (.inr e) (z_x (x_mk w 31 0 6 0))) False
  | _ => False
theorem z_cats (st : List zV) : ((st.map z_v).map (fun v => v.category)).sum = (st.map z_cat).sum := by
  rw [List.map_map]
  congr 1
  apply List.map_congr_left
  intro v _
  exact z_cat_v v
def z_na (ty : ArrayType) (st : List zV) (w : zX) (k : List zV → zX → Prop) : Prop := match st with
  | .inl n :: r => cond (Nat.beq (m_akd ty) 0) False ((0 ≤ n ∧ n < 60000) ∧ k (.inr (.inl (32 * (w.1.length + 1) + m_akd ty)) :: r) (x_mk w (m_akd ty) n.toNat n.toNat 0))
  | _ => False
theorem z_na_m {ty : ArrayType} {st : List zV} {w : zX} {k : List zV → zX → Prop} (h : z_na ty st w k) : ∃ t w', m_na ty (st.map z_v) (z_w (z_x w)) = some (t.map z_v, z_w (z_x w')) ∧ k t w' := by
  unfold z_na at h
  split at h
  · rename_i n r
    cases hb : Nat.beq (m_akd ty) 0 with
    | true => rw [hb] at h; exact h.elim
    | false =>
      rw [hb] at h
      obtain ⟨⟨h1, h2⟩, h3⟩ := h
      have h0 : ¬ m_akd ty = 0 := fun q => by rw [q] at hb; cases hb
      have e : (Int32.ofInt n).toInt = n := Int32.toInt_ofInt_of_le (by omega) (by omega)
      have e2 : (Int32.ofInt n).toNatClampNeg = n.toNat := by
        show (Int32.ofInt n).toInt.toNat = _
        rw [e]
      have g : ¬ (Int32.ofInt n < 0 ∨ 60000 ≤ (Int32.ofInt n).toNatClampNeg ∨ m_akd ty = 0) := by
        intro q
        rcases q with q | q | q
        · rw [Int32.lt_iff_toInt_lt, e] at q
          have : n < 0 := q
          omega
        · rw [e2] at q; omega
        · exact h0 q
      refine ⟨_, _, ?_, h3⟩
      simp only [List.map_cons, z_v, m_na]
      rw [if_neg g, e2, x_mk_m w _ _ _ _ (m_akd_lt ty), z_mk_m]
      rfl
  · exact h.elim
def z_i32 (n : Nat) : Int := cond (Nat.blt n 2147483648) (n : Int) ((n : Int) - 4294967296)
def z_i64 (n : Nat) : Int := cond (Nat.blt n 9223372036854775808) (n : Int) ((n : Int) - 18446744073709551616)
theorem z_i32_m (n : Nat) : Int32.ofInt (z_i32 n) = Int32.ofNat n := by
  unfold z_i32
  cases Nat.blt n 2147483648 with
  | true => exact Int32.ofInt_eq_ofNat
  | false =>
    show Int32.ofInt ((n : Int) - 4294967296) = _
    rw [Int32.ofInt_sub, Int32.ofInt_eq_ofNat, show Int32.ofInt 4294967296 = 0 from rfl]
    exact Int32.sub_zero _
theorem z_i64_m (n : Nat) : Int64.ofInt (z_i64 n) = Int64.ofNat n := by
  unfold z_i64
  cases Nat.blt n 9223372036854775808 with
  | true => exact Int64.ofInt_eq_ofNat
  | false =>
    show Int64.ofInt ((n : Int) - 18446744073709551616) = _
    rw [Int64.ofInt_sub, Int64.ofInt_eq_ofNat, show Int64.ofInt 18446744073709551616 = 0 from rfl]
    exact Int64.sub_zero _
def z_ldk (x : List Nat) (st : List zV) (k : List zV → Prop) : Prop := match x with
  | 0 :: n :: _ => k (.inl (z_i32 n) :: st)
  | 1 :: a :: _ => cond (Nat.beq (a % 32) 25) (k (.inr (.inl a) :: st)) False
  | 2 :: n :: _ => k (.inr (.inr (some (z_i64 n))) :: st)
  | _ => False
theorem z_ldk_m {x : List Nat} {st : List zV} {k : List zV → Prop} (h : z_ldk x st k) : ∃ t, m_ldk x (st.map z_v) = some (t.map z_v) ∧ k t := by
  unfold z_ldk at h
  split at h <;> unfold m_ldk
  · exact ⟨_, by simp only [List.map_cons, z_v, z_i32_m], h⟩
  · obtain ⟨h1, h2⟩ := z_cond h
    exact ⟨_, by simp only [List.map_cons, z_v, if_pos (Nat.eq_of_beq_eq_true h1)], h2⟩
  · exact ⟨_, by simp only [List.map_cons, z_v, z_i64_m], h⟩
  · exact h.elim
/-- a copy -/
def x_cpy (w : zX) (a n : Nat) : zX := (z_nl w.1 20 n 0, w.2.1 + n, (fun i j => if i = 32 * (w.1.length + 1) + 20 then (if j < (z_cfgL w.1 w.2.1).2.2.2.1 a ∧ j < n then w.2.2.1 a j else 0) else w.2.2.1 i j), z_zr w.2.2.2 (32 * (w.1.length + 1) + 20))
theorem x_cpy_m (w : zX) (a n : Nat) : z_x (x_cpy w a n) = z_cpy (z_x w) a n := by
  have h := congrArg Prod.fst (z_nl_m w.1 w.2.1 20 n n 0 w.2.2.1 w.2.2.2 (by decide))
  show (z_cfgL (z_nl w.1 20 n 0) (w.2.1 + n), _, _) = _
  rw [← show _ = z_cfgL (z_nl w.1 20 n 0) (w.2.1 + n) from h]
  rfl
/-- members of the JDK -/
def z_bi (k : Nat) (st : List zV) (w : zX) (c : List zV → zX → Prop) : Prop := match k, st with
  | 0, .inr (.inl a) :: r => cond (Nat.ble (r.map z_cat).sum 8) ((a % 32 = 25 ∧ 1 ≤ a / 32 ∧ a / 32 ≤ 35) ∧ c (.inl ((m_sig a).length : Int) :: r) w) False
  | 1, .inl i :: .inr (.inl a) :: r => cond (Nat.ble (r.map z_cat).sum 8) ((a % 32 = 25 ∧ 1 ≤ a / 32 ∧ a / 32 ≤ 35) ∧ (0 ≤ i ∧ i < ((m_sig a).length : Int) ∧ (m_sig a).length ≤ 60000) ∧ c (.inl (((m_sig a).getD i.toNat 0 : Nat) : Int) :: r) w) False
  | 2, .inl n :: .inr (.inl a) :: r => cond (Nat.ble (r.map z_cat).sum 8) ((a % 32 = 20 ∧ (0 ≤ n ∧ n < 60000) ∧ ¬ n.toNat = (z_cfgL w.1 w.2.1).2.2.2.1 a ∧ (z_cfgL w.1 w.2.1).2.2.2.1 a < 60000) ∧ c (.inr (.inl (32 * (w.1.length + 1) + 20)) :: r) (x_cpy w a n.toNat)) False
  | 3, .inl y :: .inl x :: r => cond (Nat.ble (r.map z_cat).sum 8) ((inR x ∧ inR y) ∧ c (.inl (if x < y then y else x) :: r) w) False
  | 4, .inl y :: .inl x :: r => cond (Nat.ble (r.map z_cat).sum 8) ((inR x ∧ inR y) ∧ c (.inl (if y < x then y else x) :: r) w) False
  | _, _ => False
theorem z_ltR {x y : Int} (hx : inR x) (hy : inR y) : Int32.ofInt x < Int32.ofInt y ↔ x < y := by
  rw [z_ltc, wr_id hx, wr_id hy]
theorem z_bi_m {k : Nat} {st : List zV} {w : zX} {c : List zV → zX → Prop} (h : z_bi k st w c) : ∃ t w', m_bi k (st.map z_v) (z_w (z_x w)) = some (t.map z_v, z_w (z_x w')) ∧ c t w' := by
  unfold z_bi at h
  split at h <;> (try exact h.elim) <;> obtain ⟨h0, h1, h2⟩ := z_cond h <;> have h0 := Nat.le_of_ble_eq_true h0 <;> rw [← z_cats] at h0 <;> simp only [List.map_cons, z_v, m_bi]
  · exact ⟨_, _, by rw [if_pos ⟨h1, h0⟩, ← Int32.ofInt_eq_ofNat]; rfl, h2⟩
  · obtain ⟨⟨h3, h4, h5⟩, h6⟩ := h2
    obtain ⟨g1, g2⟩ := z_idx h3 h4 h5
    exact ⟨_, _, by rw [if_pos ⟨h1, h0⟩, if_neg g1, g2, ← Int32.ofInt_eq_ofNat]; rfl, h6⟩
  · rename_i n a r _h
    obtain ⟨h3, ⟨h4, h5⟩, h6⟩ := h1
    have e : (Int32.ofInt n).toInt = n := Int32.toInt_ofInt_of_le (by omega) (by omega)
    have e2 : (Int32.ofInt n).toNatClampNeg = n.toNat := by
      show (Int32.ofInt n).toInt.toNat = _
      rw [e]
    have g : ¬ (Int32.ofInt n < 0 ∨ 60000 ≤ (Int32.ofInt n).toNatClampNeg ∨ (Int32.ofInt n).toNatClampNeg = m_N (z_w (z_x w)) a ∨ 60000 ≤ m_N (z_w (z_x w)) a) := by
      intro q
      rcases q with q | q | q | q
      · rw [Int32.lt_iff_toInt_lt, e] at q
        have : n < 0 := q
        omega
      · rw [e2] at q; omega
      · rw [e2] at q; exact h6.1 q
      · exact absurd (Nat.lt_of_lt_of_le h6.2 q) (Nat.lt_irrefl _)
    exact ⟨_, _, by rw [if_pos ⟨h3, h0⟩, if_neg g, e2, x_cpy_m, z_cpy_m]; rfl, h2⟩
  · refine ⟨_, _, ?_, h2⟩
    rw [if_pos h0]
    simp only [z_ltR h1.1 h1.2, List.map_cons, z_v, apply_ite Int32.ofInt]
  · refine ⟨_, _, ?_, h2⟩
    rw [if_pos h0]
    simp only [z_ltR h1.2 h1.1, List.map_cons, z_v, apply_ite Int32.ofInt]
def z_rk (kd : Nat) (l : List zV) : Bool := match kd, l with
  | 0, _ => true
  | k + 1, .inr (.inl a) :: _ => Nat.beq (a % 32) (k + 1)
  | _, _ => false
def z_ck (na kd : Nat) (st : List zV) : Bool := Nat.ble na st.length && (Nat.ble ((st.drop na).map z_cat).sum 8 && ((st.take na).all (fun v => Nat.beq (z_cat v) 1) && z_rk kd ((st.take na).reverse)))
theorem z_ck_m {mi na kd : Nat} {y : List Nat} {st : List zV} (h : z_ck na kd st = true) : m_cl (mi :: na :: kd :: y) (st.map z_v) = some (.inr (.inl (mi, ((st.take na).reverse).map z_v, (st.drop na).map z_v))) := by
  unfold z_ck at h
  simp only [Bool.and_eq_true] at h
  obtain ⟨h1, h2, h3, h4⟩ := h
  have e1 : na ≤ (st.map z_v).length := by rw [List.length_map]; exact Nat.le_of_ble_eq_true h1
  have e2 : (((st.map z_v).drop na).map (fun v => v.category)).sum ≤ 8 := by
    rw [← List.map_drop, z_cats]
    exact Nat.le_of_ble_eq_true h2
  have e3 : ((st.map z_v).take na).all (fun v => v.category == 1) = true := by
    rw [← List.map_take, List.all_map]
    rw [List.all_eq_true] at h3 ⊢
    intro v hv
    have := Nat.eq_of_beq_eq_true (h3 v hv)
    simp only [Function.comp, z_cat_v, this]
    rfl
  unfold m_cl
  simp only [if_pos (show na ≤ (st.map z_v).length ∧ (((st.map z_v).drop na).map (fun v => v.category)).sum ≤ 8 ∧ ((st.map z_v).take na).all (fun v => v.category == 1) = true from ⟨e1, e2, e3⟩)]
  rw [← List.map_take, ← List.map_drop, ← List.map_reverse]
  by_cases hk : kd = 0
  · rw [if_pos hk]
  · rw [if_neg hk]
    unfold z_rk at h4
    split at h4
    · exact absurd rfl hk
    · rename_i k a t hl
      rw [hl]
      simp only [List.map_cons, z_v, if_pos (Nat.eq_of_beq_eq_true h4)]
    · cases h4
def z_obj (st : List zV) (k : List zV → Prop) : Prop := match st with
  | .inr (.inl a) :: r => cond (Nat.beq a 0) False (cond (Nat.ble (r.map z_cat).sum 8) (k r) False)
  | _ => False
def z_rt (ty : Option FieldType) (ins : Instr) (st : List zV) (w : zW) (Q : zR → zW → Prop) : Prop := match ins, ty, st with
  | .return_, none, [] => Q (.inl none) w
  | .ireturn, some .int, [.inl x] => Q (.inl (some (.inl x))) w
  | .ireturn, some .boolean, [.inl x] => (x = 0 ∨ x = 1) ∧ Q (.inl (some (.inl x))) w
  | .lreturn, some .long, [.inr (.inr (some x))] => Q (.inl (some (.inr (.inr (some x))))) w
  | _, _, _ => False
theorem z_rt_m {ty : Option FieldType} {ins : Instr} {st : List zV} {w : zW} {Q : zR → zW → Prop} (h : z_rt ty ins st w Q) : ∃ r, m_rt ty ins (st.map z_v) (z_w w) = some (.inr (.inr (z_r r, z_w w))) ∧ Q r w := by
  unfold z_rt at h
  split at h
  · exact ⟨_, rfl, h⟩
  · exact ⟨_, rfl, h⟩
  · rename_i x
    have h3 : Int32.ofInt x = 0 ∨ Int32.ofInt x = 1 := h.1.imp (fun q => by rw [q]; rfl) (fun q => by rw [q]; rfl)
    exact ⟨_, by simp only [List.map_cons, List.map_nil, z_v, m_rt, if_pos h3]; rfl, h.2⟩
  · exact ⟨_, rfl, h⟩
  · exact h.elim
def z_simple (f : Bool) (ins : Instr) (pc : Nat) (ls st : List zV) (k : Nat → List zV → List zV → Prop) : Prop := match z_op0 ins st with
  | some t => k (pc + m_len ins) ls t
  | none => match z_op1 f ins st with
    | some (c, t) => c ∧ k (pc + m_len ins) ls t
    | none => match z_lo ins ls st with
      | some (ls', t) => k (pc + m_len ins) ls' t
      | none => z_br f ins pc st (fun pc' t => k pc' ls t)
theorem m_lo_no {ins : Instr} {ls st u : List Value} {q : List Value × List Value} (h : m_lo ins ls st = some q) : m_op ins u = none := by
  cases ins <;> first | rfl | cases h
theorem m_br_no {ins : Instr} {pc : Nat} {ls st u v : List Value} {q : Nat × List Value} (h : m_br ins pc st = some q) : m_op ins u = none ∧ m_lo ins ls v = none := by
  cases ins <;> first | exact ⟨rfl, rfl⟩ | cases h
theorem z_simple_m {f : Bool} {ins : Instr} {pc : Nat} {ls st : List zV} {w : mW} {k : Nat → List zV → List zV → Prop} (h : z_simple f ins pc ls st k) : ∃ pc' ls' t, m_simple ins pc (ls.map z_v) (st.map z_v) w = some (.inl (pc', ls'.map z_v, t.map z_v, w)) ∧ k pc' ls' t := by
  unfold z_simple at h
  split at h
  · rename_i t ht
    exact ⟨_, _, _, by unfold m_simple; rw [z_op0_m ht], h⟩
  · split at h
    · rename_i c t ht
      exact ⟨_, _, _, by unfold m_simple; rw [z_op1_m ht h.1], h.2⟩
    · split at h
      · rename_i ls' t ht
        have e := z_lo_m ht
        exact ⟨_, _, _, by unfold m_simple; rw [m_lo_no e, e], h⟩
      · obtain ⟨pc', t, e, hk⟩ := z_br_m h
        obtain ⟨e1, e2⟩ := m_br_no (ls := ls.map z_v) (u := st.map z_v) (v := st.map z_v) e
        exact ⟨pc', ls, t, by unfold m_simple; rw [e1, e2, e], hk⟩
def z_one (f : Bool) (sc : mS) (d : Nat) (M : mM) (k : Nat → List zV → List zV → zX → Prop) (Q : zR → zW → Prop) (pc : Nat) (ls st : List zV) (w : zX) : Prop := match m_Mc M pc with
  | none => False
  | some (ins, _, x) => match ins with
    | .getfield _ => z_gf x st w (fun t => k (pc + 3) ls t w)
    | .putfield _ => z_pf x st w (fun t w' => k (pc + 3) ls t w')
    | .new _ => z_nt x st w (fun t w' => k (pc + 3) ls t w') Q
    | .newarray ty => z_na ty st w (fun t w' => k (pc + 2) ls t w')
    | .iaload => z_ail sc st w (fun t => k (pc + 1) ls t w)
    | .baload => z_abl st w (fun t => k (pc + 1) ls t w)
    | .laload => z_ajl st w (fun t => k (pc + 1) ls t w)
    | .arraylength => z_aln sc st w (fun t => k (pc + 1) ls t w)
    | .iastore => z_ais st w (fun t w' => k (pc + 1) ls t w')
    | .bastore => z_abs st w (fun t w' => k (pc + 1) ls t w')
    | .lastore => z_ajs st w (fun t w' => k (pc + 1) ls t w')
    | .ldc _ => z_ldk x st (fun t => k (pc + 2) ls t w)
    | .ldc_w _ => z_ldk x st (fun t => k (pc + 3) ls t w)
    | .ldc2_w _ => z_ldk x st (fun t => k (pc + 3) ls t w)
    | .invokevirtual _ => match x with
      | [b] => z_bi b st w (fun t w' => k (pc + 3) ls t w')
      | mi :: na :: kd :: _ => cond (z_ck na kd st) (Cl sc d mi (st.take na).reverse (z_x w) (z_k sc d M false pc ls (st.drop na) Q)) False
      | _ => False
    | .invokestatic _ => match x with
      | [b] => z_bi b st w (fun t w' => k (pc + 3) ls t w')
      | mi :: na :: kd :: _ => cond (z_ck na kd st) (Cl sc d mi (st.take na).reverse (z_x w) (z_k sc d M false pc ls (st.drop na) Q)) False
      | _ => False
    | .invokespecial _ => match x with
      | [] => z_obj st (fun t => k (pc + 3) ls t w)
      | mi :: na :: kd :: _ => cond (z_ck na kd st) (Cl sc d mi (st.take na).reverse (z_x w) (z_k sc d M true pc ls (st.drop na) Q)) False
      | _ => False
    | .return_ => z_rt (m_Mr M) .return_ st (z_x w) Q
    | .ireturn => z_rt (m_Mr M) .ireturn st (z_x w) Q
    | .lreturn => z_rt (m_Mr M) .lreturn st (z_x w) Q
    | ins => z_simple f ins pc ls st (fun pc' ls' t => k pc' ls' t w)
theorem m_step_sm {sc : mS} {M : mM} {pc : Nat} {ls st : List Value} {w : mW} {ins : Instr} {len : Nat} {x : List Nat} {q : mN} (hc : m_Mc M pc = some (ins, len, x)) (h : m_simple ins pc ls st w = some q) : m_step sc M pc ls st w = some q := by
  unfold m_step
  rw [hc]
  cases ins <;> first | exact h | cases h
theorem z_one_m {f : Bool} {sc : mS} {d : Nat} {M : mM} {k : Nat → List zV → List zV → zX → Prop} {Q : zR → zW → Prop} {pc : Nat} {ls st : List zV} {w : zX} (hk : ∀ pc' ls' st' w', k pc' ls' st' w' → Go sc d M pc' ls' st' (z_x w') Q) (h : z_one f sc d M k Q pc ls st w) : Go sc d M pc ls st (z_x w) Q := by
  unfold z_one at h
  split at h
  · exact h.elim
  · rename_i ins len x hc
    split at h
    · obtain ⟨t, e, h1⟩ := z_gf_m h
      exact Go_step (by simp only [m_step, hc, m_nx, e]) (hk _ _ _ _ h1)
    · obtain ⟨t, w', e, h1⟩ := z_pf_m h
      exact Go_step (by simp only [m_step, hc, m_nw2, e]) (hk _ _ _ _ h1)
    · unfold z_nt at h
      split at h
      · obtain ⟨h1, h2⟩ := z_cond h
        exact Go_step (by rw [x_mk_m _ _ _ _ _ (by have := z_blt h1; omega)]; simp only [m_step, hc, m_nt, m_nw, if_pos (z_blt h1), m_nw2, z_mk_m]; rfl) (hk _ _ _ _ h2)
      · obtain ⟨h1, h2⟩ := z_cond h
        have h1 := Nat.le_of_ble_eq_true h1
        rw [← z_cats] at h1
        exact Go_end (r := .inr _) (by rw [x_mk_m _ _ _ _ _ (by decide)]; simp only [m_step, hc, m_nt, if_pos h1, z_mk_m]; rfl) h2
      · exact h.elim
    · obtain ⟨t, w', e, h1⟩ := z_na_m h
      exact Go_step (by simp only [m_step, hc, m_nw2, e]) (hk _ _ _ _ h1)
    · obtain ⟨t, e, h1⟩ := z_ail_m h
      exact Go_step (by simp only [m_step, hc, m_nx, e]) (hk _ _ _ _ h1)
    · obtain ⟨t, e, h1⟩ := z_abl_m (sc := sc) h
      exact Go_step (by simp only [m_step, hc, m_nx, e]) (hk _ _ _ _ h1)
    · obtain ⟨t, e, h1⟩ := z_ajl_m (sc := sc) h
      exact Go_step (by simp only [m_step, hc, m_nx, e]) (hk _ _ _ _ h1)
    · obtain ⟨t, e, h1⟩ := z_aln_m h
      exact Go_step (by simp only [m_step, hc, m_nx, e]) (hk _ _ _ _ h1)
    · obtain ⟨t, w', e, h1⟩ := z_ais_m h
      exact Go_step (by simp only [m_step, hc, m_nw2, e]) (hk _ _ _ _ h1)
    · obtain ⟨t, w', e, h1⟩ := z_abs_m h
      exact Go_step (by simp only [m_step, hc, m_nw2, e]) (hk _ _ _ _ h1)
    · obtain ⟨t, w', e, h1⟩ := z_ajs_m h
      exact Go_step (by simp only [m_step, hc, m_nw2, e]) (hk _ _ _ _ h1)
    · obtain ⟨t, e, h1⟩ := z_ldk_m h
      exact Go_step (by simp only [m_step, hc, m_nx, e]) (hk _ _ _ _ h1)
    · obtain ⟨t, e, h1⟩ := z_ldk_m h
      exact Go_step (by simp only [m_step, hc, m_nx, e]) (hk _ _ _ _ h1)
    · obtain ⟨t, e, h1⟩ := z_ldk_m h
      exact Go_step (by simp only [m_step, hc, m_nx, e]) (hk _ _ _ _ h1)
    · split at h
      · obtain ⟨t, w', e, h1⟩ := z_bi_m h
        exact Go_step (by simp only [m_step, hc, m_nw2, e]) (hk _ _ _ _ h1)
      · obtain ⟨h1, h2⟩ := z_cond h
        exact Go_call (sp := false) (by simp only [m_step, hc, z_ck_m h1]) (fun _ i l y => by rw [hc]; simp) h2
      · exact h.elim
    · split at h
      · obtain ⟨t, w', e, h1⟩ := z_bi_m h
        exact Go_step (by simp only [m_step, hc, m_nw2, e]) (hk _ _ _ _ h1)
      · obtain ⟨h1, h2⟩ := z_cond h
        exact Go_call (sp := false) (by simp only [m_step, hc, z_ck_m h1]) (fun _ i l y => by rw [hc]; simp) h2
      · exact h.elim
    · split at h
      · unfold z_obj at h
        split at h
        · rename_i a r
          cases hb : Nat.beq a 0 with
          | true => rw [hb] at h; exact h.elim
          | false =>
            rw [hb] at h
            obtain ⟨h1, h2⟩ := z_cond h
            have h1 := Nat.le_of_ble_eq_true h1
            rw [← z_cats] at h1
            have h0 : ¬ (a = 0 ∨ 8 < ((r.map z_v).map (fun v => v.category)).sum) := fun q => by
              rcases q with q | q
              · rw [q] at hb; cases hb
              · omega
            exact Go_step (by simp only [m_step, hc, m_obj, List.map_cons, z_v, if_neg h0]) (hk _ _ _ _ h2)
        · exact h.elim
      · obtain ⟨h1, h2⟩ := z_cond h
        exact Go_call (sp := true) (by simp only [m_step, hc, z_ck_m h1]) (fun q => by cases q) h2
      · exact h.elim
    · obtain ⟨r, e, h1⟩ := z_rt_m h
      exact Go_end (by simp only [m_step, hc, e]) h1
    · obtain ⟨r, e, h1⟩ := z_rt_m h
      exact Go_end (by simp only [m_step, hc, e]) h1
    · obtain ⟨r, e, h1⟩ := z_rt_m h
      exact Go_end (by simp only [m_step, hc, e]) h1
    · obtain ⟨pc', ls', t, e, h1⟩ := z_simple_m (w := z_w (z_x w)) h
      exact Go_step (m_step_sm hc e) (hk _ _ _ _ h1)
/-- up to the places of 'cuts' -/
def z_wp (f : Bool) (sc : mS) (d : Nat) (M : mM) (cuts : List Nat) (Q : zR → zW → Prop) : Nat → Nat → List zV → List zV → zX → Prop
  | 0, pc, ls, st, w => Go sc d M pc ls st (z_x w) Q
  | n + 1, pc, ls, st, w => z_one f sc d M (fun pc' ls' st' w' => cond (cuts.any (Nat.beq pc')) (Go sc d M pc' ls' st' (z_x w') Q) (z_wp f sc d M cuts Q n pc' ls' st' w')) Q pc ls st w
theorem z_sound {f : Bool} {sc : mS} {d : Nat} {M : mM} {cuts : List Nat} {Q : zR → zW → Prop} : ∀ (n pc : Nat) (ls st : List zV) (w : zX), z_wp f sc d M cuts Q n pc ls st w → Go sc d M pc ls st (z_x w) Q := by
  intro n
  induction n with
  | zero => intro pc ls st w h; exact h
  | succ n ih =>
    intro pc ls st w h
    refine z_one_m (fun pc' ls' st' w' h' => ?_) h
    cases hb : cuts.any (Nat.beq pc') with
    | true => rw [hb] at h'; exact h'
    | false => rw [hb] at h'; exact ih _ _ _ _ h'
