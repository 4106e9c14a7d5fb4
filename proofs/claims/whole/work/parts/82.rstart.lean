/-! ===== the reference: start, goal, numbers of states ===== -/
theorem or_rset {r u p : Nat} (h : r < 2 ^ (2 * u)) : r ||| p * 2 ^ (2 * u) = rset r u p := by
  apply Nat.eq_of_testBit_eq
  intro i
  rw [rset_bit, Nat.testBit_or, Nat.testBit_mul_two_pow]
  by_cases hi : 2 * u ≤ i
  · have e : r.testBit i = false := Nat.testBit_lt_two_pow (Nat.lt_of_lt_of_le h (Nat.pow_le_pow_right (n := 2) (by omega) hi))
    rw [e]
    rfl
  · rw [decide_eq_false hi]
    cases r.testBit i <;> rfl
theorem start_dg {D : tD} (hD : dOk D) : (∀ i, i < 8 → lshore (dStart D) i = 0) ∧ (∀ b, b < 2 → dg (dStart D) (8 + b) = if b < dB D then dAt D b else 0) ∧ dg (dStart D) 10 = if dLamp D = -1 then 0 else (dLamp D).toNat := by
  obtain ⟨h1, h2, h3, h4⟩ := st_fold hD (dB D) (Nat.le_refl _)
  refine ⟨h2, fun b hb => ?_, h4⟩
  rw [← lberth_eq]
  exact h3 b hb
theorem sh_eq {s s' : Nat} (h : ∀ i, i < 8 → lshore s i = lshore s' i) : s % 65536 = s' % 65536 := by
  apply Nat.eq_of_testBit_eq
  intro i
  rw [show (65536 : Nat) = 2 ^ 16 from rfl, Nat.testBit_mod_two_pow, Nat.testBit_mod_two_pow]
  by_cases hi : i < 16
  · rw [decide_eq_true hi]
    have key : ∀ j, j < 8 → s.testBit j = s'.testBit j ∧ s.testBit (8 + j) = s'.testBit (8 + j) := by
      intro j hj
      have e := h j hj
      unfold lshore at e
      cases h1 : s.testBit j <;> cases h2 : s'.testBit j <;> cases h3 : s.testBit (8 + j) <;> cases h4 : s'.testBit (8 + j) <;> rw [h1, h2, h3, h4] at e <;> first | exact ⟨rfl, rfl⟩ | (exfalso; revert e; decide)
    by_cases h8 : i < 8
    · rw [(key i h8).1]
    · have := (key (i - 8) (by omega)).2
      rw [show 8 + (i - 8) = i by omega] at this
      rw [this]
  · rw [decide_eq_false hi]
    rfl
theorem sh_mod {s i : Nat} (hi : i < 8) : lshore (s % 65536) i = lshore s i := by
  unfold lshore
  rw [show (65536 : Nat) = 2 ^ 16 from rfl, Nat.testBit_mod_two_pow, Nat.testBit_mod_two_pow, decide_eq_true (by omega : i < 16), decide_eq_true (by omega : 8 + i < 16)]
  rfl
theorem goal_lash {D : tD} {s : Nat} (hD : dOk D) (hs : stOk D s) : dGoal D s = decide (lash s (dS D - 1) (dT D) = dAll D) := by
  have hS4 := hD.1
  have hT := hD.2.1
  have hA := dAll_lt hD
  have hP : ∀ i, i < 8 → lshore (lplaced 0 (dAll D) (dS D - 1)) i = if i < dT D then dS D - 1 else 0 := by
    intro i hi
    rw [lshore_placed hA (by omega) hi, lshore_0]
    unfold dAll
    rw [Nat.testBit_two_pow_sub_one]
    by_cases q : i < dT D
    · rw [decide_eq_true q, if_pos rfl, if_pos q]
    · rw [decide_eq_false q, if_neg (by decide), if_neg q]
  have hPl : lplaced 0 (dAll D) (dS D - 1) % 65536 = lplaced 0 (dAll D) (dS D - 1) := Nat.mod_eq_of_lt (lplaced0_lt hA)
  have iff : (s % 65536 = lplaced 0 (dAll D) (dS D - 1)) ↔ lash s (dS D - 1) (dT D) = dAll D := by
    constructor
    · intro e
      apply Nat.eq_of_testBit_eq
      intro i
      unfold lash dAll
      rw [msk_bit, Nat.testBit_two_pow_sub_one]
      by_cases q : i < dT D
      · rw [decide_eq_true q]
        have e2 : lshore s i = dS D - 1 := by
          rw [← sh_mod (by omega : i < 8), e, hP i (by omega), if_pos q]
        rw [e2, Nat.beq_refl]
        rfl
      · rw [decide_eq_false q]
        rfl
    · intro e
      rw [← hPl]
      refine sh_eq (fun i hi => ?_)
      rw [hP i hi]
      by_cases q : i < dT D
      · rw [if_pos q]
        have e2 := congrArg (fun x => Nat.testBit x i) e
        simp only [lash, dAll] at e2
        rw [msk_bit, Nat.testBit_two_pow_sub_one, decide_eq_true q] at e2
        exact Nat.eq_of_beq_eq_true e2
      · rw [if_neg q]
        exact hs.2.1 i (by omega) hi
  unfold dGoal
  by_cases q : lash s (dS D - 1) (dT D) = dAll D
  · rw [decide_eq_true q, iff.mpr q, Nat.beq_refl]
  · rw [decide_eq_false q]
    cases hb : Nat.beq (s % 65536) (lplaced 0 (dAll D) (dS D - 1))
    · rfl
    · exact absurd (iff.mp (Nat.eq_of_beq_eq_true hb)) q
section
variable {sc : mS} {d : Nat} {t : zT} {I J : Nat → Nat → Int} {Q : zR → zW → Prop} {D : tD} {ho lo : Nat}
theorem k184 (hR : RD I D ho lo) (hD : dOk D) (h : ∀ r, SR (dStart D) r → Q (.inl (some (vi (r : Nat)))) (z_cfg t, I, J)) : Go sc d mt_184 0 [vr 1835, vn, vn] [] (z_cfg t, I, J) Q := by
  have hS4 := hD.1
  have hB := hD.2.2.1
  obtain ⟨s1, s2, s3⟩ := start_dg hD
  have loop : ∀ (m b r : Nat), b + m = dB D → r < 2 ^ (2 * (8 + b)) → (∀ i, i < 8 → dg r i = 0) → (∀ c, c < 2 → dg r (8 + c) = if c < b then dAt D c else 0) → Go sc d mt_184 4 [vr 1835, vi (r : Int), vi (b : Int)] [] (z_cfg t, I, J) Q := by
    intro m
    induction m with
    | zero =>
      intro b r hb hr r1 r2
      have hb' : b = dB D := by omega
      have hr20 : r < 2 ^ (2 * 10) := Nat.lt_of_lt_of_le hr (Nat.pow_le_pow_right (n := 2) (by omega) (by omega))
      have hd10 : dg r 10 = 0 := by
        unfold dg
        rw [Nat.div_eq_of_lt hr20]
      refine b184_4 ?_
      rw [hR.2.2.1, hR.2.2.2.2.1]
      refine ⟨⟨by omega, by omega⟩, ⟨by omega, by omega⟩, fun c => by omega, fun _ => ⟨lamp_in hD, fun c => ?_, fun c => ?_⟩⟩
      · refine h r ⟨by omega, fun i hi => ?_, fun u u1 u2 => ?_⟩
        · rw [r1 i hi, s1 i hi]
        · by_cases e : u = 10
          · rw [e, hd10, s3, if_pos c]
          · rw [show u = 8 + (u - 8) by omega, r2 (u - 8) (by omega), s2 (u - 8) (by omega), hb']
      · have hl : (dLamp D).toNat < 4 := by
          rcases hD.2.2.2.2.1 with q | q
          · exact absurd q c
          · omega
        have hl0 : dLamp D = (((dLamp D).toNat : Nat) : Int) := by
          rcases hD.2.2.2.2.1 with q | q
          · exact absurd q c
          · omega
        have e2 : zshl (dLamp D) 20 = (((dLamp D).toNat * 2 ^ 20 : Nat) : Int) := by
          rw [hl0, Int.toNat_natCast]
          exact zshl_n (k := 20) (by omega) (by omega)
        rw [e2, zor_n (by omega) (by omega), show (20 : Nat) = 2 * 10 from rfl, or_rset hr20]
        refine h _ ⟨rset_lt (by omega) (by omega) hl, fun i hi => ?_, fun u u1 u2 => ?_⟩
        · rw [dg_rset hl, if_neg (by omega), r1 i hi, s1 i hi]
        · rw [dg_rset hl]
          by_cases e : u = 10
          · rw [if_pos e, e, s3, if_neg c]
          · rw [if_neg e, show u = 8 + (u - 8) by omega, r2 (u - 8) (by omega), s2 (u - 8) (by omega), hb']
    | succ m ih =>
      intro b r hb hr r1 r2
      have hat := (hD.2.2.2.2.2.2.1 b (by omega)).2.2
      have hr18 : r < 2 ^ 18 := Nat.lt_of_lt_of_le hr (Nat.pow_le_pow_right (n := 2) (by omega) (by omega))
      have hp4 : dAt D b < 4 := by omega
      have hpw := pw16 (b := b) (by omega) hp4
      refine b184_4 ?_
      rw [hR.2.2.1, Int.toNat_natCast, (hR.2.2.2.2.2.2.1 b (by omega)).2.2, c16_2b]
      refine ⟨⟨by omega, by omega⟩, ⟨by omega, by omega⟩, fun _ => ⟨⟨by omega, by omega⟩, ?_⟩, fun c => by omega⟩
      rw [zshl_n (by omega) (by omega), zor_n (by omega) (by omega), show 16 + 2 * b = 2 * (8 + b) by omega, or_rset hr]
      refine ih (b + 1) _ (by omega) ?_ (fun i hi => ?_) (fun c hc => ?_)
      · rw [← or_rset hr]
        refine Nat.or_lt_two_pow (Nat.lt_of_lt_of_le hr (Nat.pow_le_pow_right (n := 2) (by omega) (by omega))) ?_
        rw [show 2 * (8 + (b + 1)) = 2 + 2 * (8 + b) by omega, Nat.pow_add]
        exact Nat.mul_lt_mul_of_pos_right hp4 (Nat.two_pow_pos _)
      · rw [dg_rset hp4, if_neg (by omega), r1 i hi]
      · rw [dg_rset hp4]
        by_cases e : c = b
        · rw [if_pos (by omega), if_pos (by omega), e]
        · rw [if_neg (by omega), r2 c hc]
          by_cases q : c < b
          · rw [if_pos q, if_pos (by omega)]
          · rw [if_neg q, if_neg (by omega)]
  exact b184_0 (loop (dB D) 0 0 (by omega) (Nat.two_pow_pos _) (fun i _ => dg_0 i) (fun c _ => by rw [dg_0, if_neg (by omega)]))
theorem k251 {x1 : Int} {s r : Nat} (e1 : x1 = r) (hd : 1 ≤ d) (hR : RD I D ho lo) (hD : dOk D) (hs : SR s r) (hst : stOk D s) (h : Q (.inl (some (vi ((dGoal D s).toNat)))) (z_cfg t, I, J)) : Go sc d mt_251 0 [vr 1835, vi x1] [] (z_cfg t, I, J) Q := by
  subst e1
  have hS4 := hD.1
  have hA := dAll_lt hD
  have hl := lash_le (D := D) (s := s) (p := dS D - 1)
  refine b251_0 ?_
  rw [hR.1]
  refine c245 (by omega) (fun d' _ => k245 (p := dS D - 1) rfl (by omega) hR hD hs (by omega) ?_)
  refine b251_11 (c222 (by omega) (fun d' _ => k222 hR hD ?_))
  rw [goal_lash hD hst] at h
  refine b251_15 ⟨⟨by omega, by omega⟩, ⟨by omega, by omega⟩, fun c => ?_, fun c => ?_⟩
  · rw [decide_eq_true (by omega)] at h; exact h
  · rw [decide_eq_false (fun z => c (by rw [z]))] at h; exact h
/-! numbers of states -/
def hR (r : Nat) : Nat := (zand (zxor (r : Int) (zshr (r : Int) 9) * 31) 8191).toNat
theorem z8191 (x : Int) : ∃ n : Nat, n < 8192 ∧ zand x 8191 = (n : Int) := by
  refine ⟨((Int32.ofInt x) &&& (Int32.ofInt 8191)).toBitVec.toNat, ?_, ?_⟩
  · rw [Int32.toBitVec_and, BitVec.toNat_and]
    have e : (Int32.ofInt 8191).toBitVec.toNat = 8191 := by decide
    rw [e]
    exact Nat.lt_succ_of_le Nat.and_le_right
  · have hlt : ((Int32.ofInt x) &&& (Int32.ofInt 8191)).toBitVec.toNat < 8192 := by
      rw [Int32.toBitVec_and, BitVec.toNat_and]
      have e : (Int32.ofInt 8191).toBitVec.toNat = 8191 := by decide
      rw [e]
      exact Nat.lt_succ_of_le Nat.and_le_right
    exact zval rfl (by omega)
theorem hR_v (r : Nat) : hR r < 8192 ∧ zand (zxor (r : Int) (zshr (r : Int) 9) * 31) 8191 = (hR r : Int) := by
  obtain ⟨n, h1, h2⟩ := z8191 (zxor (r : Int) (zshr (r : Int) 9) * 31)
  unfold hR
  rw [h2]
  exact ⟨by omega, rfl⟩
/-- the reference's rows of states and of places -/
def RS (I : Nat → Nat → Int) (n : Nat) (X T : Nat → Nat) : Prop := n ≤ 2000 ∧ I 1835 54 = n ∧ (∀ k, k < n → I 2676 k = X k ∧ X k < 4194304) ∧ (∀ i, i < 8192 → I 2804 i = T i) ∧ pbOk 8192 n T (fun k => hR (X k))
theorem k242 {x1 : Int} {n r : Nat} {X T : Nat → Nat} (e1 : x1 = r) (hS : RS I n X T) (hX : ∀ a b, a < n → b < n → X a = X b → a = b) (hr : r < 4194304)
    (hf : ∀ k, fnd X n r = some k → Q (.inl (some (vi (k : Int)))) (z_cfg t, I, J))
    (hn : fnd X n r = none → n = 2000 → Q (.inl (some (vi (-1)))) (z_cfg t, I, J))
    (ha : fnd X n r = none → n < 2000 → ∀ I' T', (∀ a, ¬ a = 1835 → ¬ a = 2676 → ¬ a = 2804 → I' a = I a) → (∀ k, ¬ k = 54 → I' 1835 k = I 1835 k) → RS I' (n + 1) (upN X n r) T' → Q (.inl (some (vi (n : Int)))) (z_cfg t, I', J)) :
    Go sc d mt_242 0 [vr 1835, vi x1, vn] [] (z_cfg t, I, J) Q := by
  subst e1
  obtain ⟨s1, s2, s3, s4, s5⟩ := hS
  obtain ⟨j, j1, j2, j3⟩ := pb_stop s5 (by omega) (hR r) (fun i => X i = r)
  have hlt : ∀ i, (hR r + i) % 8192 < 8192 := fun i => Nat.mod_lt _ (by omega)
  -- where the search ends
  have fin : Go sc d mt_242 51 [vr 1835, vi (r : Int), vi (((hR r + j) % 8192 : Nat) : Int)] [] (z_cfg t, I, J) Q := by
    have hl := hlt j
    have hT := s5.1 _ hl
    refine b242_51 ⟨⟨by omega, by omega⟩, ?_⟩
    rw [Int.toNat_natCast, s4 _ hl, s2]
    refine ⟨⟨by omega, by omega⟩, fun c => ⟨⟨by omega, by omega⟩, fun c2 => ?_, fun c2 => ⟨⟨by omega, by omega⟩, ?_⟩⟩, fun c => ?_⟩
    · have h0 : T ((hR r + j) % 8192) = 0 := by omega
      refine hn ?_ (by omega)
      cases hq : fnd X n r with
      | none => rfl
      | some i =>
        obtain ⟨f1, f2⟩ := fnd_some hq
        exfalso
        refine pb_has s5 f1 (by rw [f2]) j1 h0 (fun j' hj' e => ?_)
        have := (j3 j' hj').2
        rw [e] at this
        exact this f2
    · have h0 : T ((hR r + j) % 8192) = 0 := by omega
      have hq : fnd X n r = none := by
        cases hq : fnd X n r with
        | none => rfl
        | some i =>
          obtain ⟨f1, f2⟩ := fnd_some hq
          exfalso
          refine pb_has s5 f1 (by rw [f2]) j1 h0 (fun j' hj' e => ?_)
          have := (j3 j' hj').2
          rw [e] at this
          exact this f2
      rw [show ((n : Int) + 1) - 1 = (n : Int) by omega, Int.toNat_natCast]
      refine ha hq (by omega) _ (fun i => if i = (hR r + j) % 8192 then n + 1 else T i) (fun a h1 h2 h3 => ?_) (fun k h1 => ?_) ⟨by omega, ?_, fun k hk => ?_, fun i hi => ?_, ?_⟩
      · rw [zu_ne h1, zu_ne h3, zu_ne h2]
      · rw [zu_nk h1, zu_ne (by decide : ¬ 1835 = 2804), zu_ne (by decide : ¬ 1835 = 2676)]
      · rw [zu_same]; omega
      · rw [zu_ne (by decide : ¬ 2676 = 1835), zu_ne (by decide : ¬ 2676 = 2804), zu_at]
        by_cases e : k = n
        · rw [if_pos e, e, upN_at]; exact ⟨rfl, hr⟩
        · rw [if_neg e, upN_ne e]; exact s3 k (by omega)
      · rw [zu_ne (by decide : ¬ 2804 = 1835), zu_at, zu_ne (by decide : ¬ 2804 = 2676)]
        show _ = (((if i = (hR r + j) % 8192 then n + 1 else T i) : Nat) : Int)
        by_cases e : i = (hR r + j) % 8192
        · rw [if_pos e, if_pos e]; omega
        · rw [if_neg e, if_neg e]; exact s4 i hi
      · refine pb_add s5 (fun k hk => ?_) ?_ j1 (by omega) h0 (fun j' hj' => (j3 j' hj').1)
        · show hR (upN X n r k) = hR (X k)
          rw [upN_ne (by omega)]
        · show hR (upN X n r n) = hR r
          rw [upN_at]
    · rcases j2 with q | q
      · omega
      · have e : ((T ((hR r + j) % 8192) : Nat) : Int) - 1 = ((T ((hR r + j) % 8192) - 1 : Nat) : Int) := by omega
        rw [e]
        refine hf _ ?_
        exact fnd_of hX (by omega) q.2
  have loop : ∀ (m i : Nat), i + m = j → Go sc d mt_242 14 [vr 1835, vi (r : Int), vi (((hR r + i) % 8192 : Nat) : Int)] [] (z_cfg t, I, J) Q := by
    intro m
    induction m with
    | zero =>
      intro i hi
      have : i = j := by omega
      rw [this]
      have hl := hlt j
      have hT := s5.1 _ hl
      refine b242_14 ⟨⟨by omega, by omega⟩, ?_⟩
      rw [Int.toNat_natCast, s4 _ hl]
      refine ⟨⟨by omega, by omega⟩, fun _ => fin, fun c => ?_⟩
      rw [show (((T ((hR r + j) % 8192) : Nat) : Int) - 1).toNat = T ((hR r + j) % 8192) - 1 by omega]
      have g := s3 (T ((hR r + j) % 8192) - 1) (by omega)
      rw [g.1]
      refine ⟨⟨by omega, by omega⟩, ⟨by omega, by omega⟩, ⟨by omega, by omega⟩, fun _ => fin, fun c2 => ?_⟩
      rcases j2 with q | q
      · omega
      · exact absurd (congrArg (fun x : Nat => (x : Int)) q.2) c2
    | succ m ih =>
      intro i hi
      have hl := hlt i
      have hT := s5.1 _ hl
      obtain ⟨n1, n2⟩ := j3 i (by omega)
      refine b242_14 ⟨⟨by omega, by omega⟩, ?_⟩
      rw [Int.toNat_natCast, s4 _ hl]
      refine ⟨⟨by omega, by omega⟩, fun c => by omega, fun c => ?_⟩
      rw [show (((T ((hR r + i) % 8192) : Nat) : Int) - 1).toNat = T ((hR r + i) % 8192) - 1 by omega]
      have g := s3 (T ((hR r + i) % 8192) - 1) (by omega)
      rw [g.1]
      refine ⟨⟨by omega, by omega⟩, ⟨by omega, by omega⟩, ⟨by omega, by omega⟩, fun c2 => absurd (by omega) n2, fun _ => ?_⟩
      rw [show (((hR r + i) % 8192 : Nat) : Int) + 1 = (((hR r + i) % 8192 + 1 : Nat) : Int) by omega, show (8191 : Int) = ((8191 : Nat) : Int) from rfl, zandm 8191 13 rfl (by omega) (by omega), show ((hR r + i) % 8192 + 1) % 2 ^ 13 = (hR r + (i + 1)) % 8192 by omega]
      exact ih (i + 1) (by omega)
  refine b242_0 ?_
  rw [(hR_v r).2]
  have := loop j 0 (by omega)
  rw [Nat.add_zero, Nat.mod_eq_of_lt (hR_v r).1] at this
  exact this
end
