/-! ===== alike: both sides ===== -/
def sw (i j S : Nat) : Nat := S ^^^ (2 ^ i ||| 2 ^ j)
def al1 (D : tD) (i j p nb : Nat) : Prop := ∀ S, S ≤ dAll D → S.testBit i = true → S.testBit j = false → ∀ l, l ≤ 1 → dBars D S p nb l = dBars D (sw i j S) p nb l
def alP (D : tD) (i j : Nat) : Prop := ∀ p, p ≤ dS D → ∀ nb, nb ≤ 2 → al1 D i j p nb
noncomputable def alB (D : tD) (i j : Nat) : Bool := @decide (dWt D i = dWt D j ∧ dMi D i = dMi D j ∧ alP D i j) (Classical.propDecidable _)
/-- the things of the first n that are alike with i -/
noncomputable def alS (D : tD) (i n : Nat) : Nat := msk n (fun j => Nat.beq j i || alB D i j)
theorem and_both {i j S : Nat} (h : ¬ i = j) : S &&& (2 ^ i ||| 2 ^ j) = 2 ^ i ↔ (S.testBit i = true ∧ S.testBit j = false) := by
  have b : ∀ q, (2 ^ i ||| 2 ^ j).testBit q = (decide (i = q) || decide (j = q)) := fun q => by rw [Nat.testBit_or, Nat.testBit_two_pow, Nat.testBit_two_pow]
  constructor
  · intro e
    have e1 : (S &&& (2 ^ i ||| 2 ^ j)).testBit i = (2 ^ i).testBit i := by rw [e]
    have e2 : (S &&& (2 ^ i ||| 2 ^ j)).testBit j = (2 ^ i).testBit j := by rw [e]
    rw [Nat.testBit_and, b, Nat.testBit_two_pow, decide_eq_true rfl, Bool.true_or, Bool.and_true] at e1
    rw [Nat.testBit_and, b, Nat.testBit_two_pow, decide_eq_false h, decide_eq_true rfl, Bool.false_or, Bool.and_true] at e2
    exact ⟨e1, e2⟩
  · rintro ⟨h1, h2⟩
    apply Nat.eq_of_testBit_eq
    intro q
    rw [Nat.testBit_and, b, Nat.testBit_two_pow]
    by_cases c : i = q
    · rw [← c, h1, decide_eq_true rfl]; rfl
    · rw [decide_eq_false c, Bool.false_or]
      by_cases c2 : j = q
      · rw [← c2, h2]; rfl
      · rw [decide_eq_false c2, Bool.and_false]
theorem sw_eq {i j S : Nat} (h : ¬ i = j) (h1 : S.testBit i = true) (h2 : S.testBit j = false) : ndiff S (2 ^ i) ||| 2 ^ j = sw i j S := by
  apply Nat.eq_of_testBit_eq
  intro q
  unfold sw
  rw [Nat.testBit_or, ndiff_bit, Nat.testBit_xor, Nat.testBit_or, Nat.testBit_two_pow, Nat.testBit_two_pow]
  by_cases c : i = q
  · rw [← c, h1, decide_eq_true rfl, decide_eq_false (fun z : j = i => h z.symm)]; rfl
  · rw [decide_eq_false c]
    by_cases c2 : j = q
    · rw [← c2, h2, decide_eq_true rfl]; rfl
    · rw [decide_eq_false c2]
      cases S.testBit q <;> rfl
theorem pw_lt {D : tD} {i : Nat} (hD : dOk D) (hi : i < dT D) : 2 ^ i < 2 ^ dT D ∧ 2 ^ dT D ≤ 256 ∧ dAll D + 1 = 2 ^ dT D := by
  have h8 : 2 ^ dT D ≤ 2 ^ 8 := Nat.pow_le_pow_right (by decide) hD.2.1
  have h0 := Nat.two_pow_pos (dT D)
  refine ⟨Nat.pow_lt_pow_right (by decide) hi, by omega, ?_⟩
  unfold dAll
  omega
theorem sw_le {D : tD} {i j S : Nat} (hD : dOk D) (hi : i < dT D) (hj : j < dT D) (hS : S ≤ dAll D) : sw i j S ≤ dAll D := by
  obtain ⟨a1, a2, a3⟩ := pw_lt hD hi
  obtain ⟨b1, -, -⟩ := pw_lt hD hj
  have : sw i j S < 2 ^ dT D := Nat.xor_lt_two_pow (by omega) (Nat.or_lt_two_pow a1 b1)
  omega
section
variable {sc : mS} {d : Nat} {t : zT} {I J : Nat → Nat → Int} {Q : zR → zW → Prop} {D : tD} {ho lo : Nat}
theorem dBars_r (hD : dOk D) (S p nb l : Nat) : inR ((dBars D S p nb l : Nat) : Int) := by
  have h1 := dBars_l (D := D) S p nb l
  have h2 : 2 ^ dL D ≤ 2 ^ 12 := Nat.pow_le_pow_right (by omega) hD.2.2.2.1
  exact ⟨by omega, by omega⟩
theorem k175 {x1 x2 x3 x4 : Int} {i j p nb : Nat} (e1 : x1 = ((2 ^ i : Nat) : Int)) (e2 : x2 = ((2 ^ j : Nat) : Int)) (e3 : x3 = p) (e4 : x4 = nb) (hd : 3 ≤ d) (hU : RU t I D) (hi : i < dT D) (hj : j < dT D) (hij : ¬ i = j) (hp : p ≤ dS D) (hnb : nb ≤ 2)
    (h1 : al1 D i j p nb → ∀ (I' : Nat → Nat → Int), FB I I' → RU t I' D → Q (.inl (some (vi 1))) (z_cfg t, I', J)) (h0 : ¬ al1 D i j p nb → ∀ (I' : Nat → Nat → Int), FB I I' → RU t I' D → Q (.inl (some (vi 0))) (z_cfg t, I', J)) : Go sc d mt_175 0 [vr 839, vi x1, vi x2, vi x3, vi x4, vn, vn, vn] [] (z_cfg t, I, J) Q := by
  subst e1 e2 e3 e4
  have hD := hU.2.2.2
  have hA := dAll_lt hD
  obtain ⟨a1, a2, a3⟩ := pw_lt hD hi
  obtain ⟨b1, -, -⟩ := pw_lt hD hj
  have hor : 2 ^ i ||| 2 ^ j < 2 ^ dT D := Nat.or_lt_two_pow a1 b1
  have hpi := Nat.two_pow_pos i
  have hpj := Nat.two_pow_pos j
  refine b175_0 ?_
  rw [zor_n (by omega) (by omega)]
  have loop : ∀ (m S : Nat) (I1 : Nat → Nat → Int) (v7 : zV), S + m = dAll D + 1 → FB I I1 → RU t I1 D → (∀ S', S' < S → S'.testBit i = true → S'.testBit j = false → ∀ l, l ≤ 1 → dBars D S' p nb l = dBars D (sw i j S') p nb l) → Go sc d mt_175 8 [vr 839, vi ((2 ^ i : Nat) : Int), vi ((2 ^ j : Nat) : Int), vi (p : Int), vi (nb : Int), vi ((2 ^ i ||| 2 ^ j : Nat) : Int), vi (S : Int), v7] [] (z_cfg t, I1, J) Q := by
    intro m
    induction m with
    | zero =>
      intro S I1 v7 hS f1 hU1 hall
      refine b175_8 (c27 (by omega) (fun d' _ => k27 hU1.1 hD (b175_17 ⟨⟨by omega, by omega⟩, ⟨by omega, by omega⟩, fun _ => h1 (fun S' hS' => hall S' (by omega)) I1 f1 hU1, fun z => by omega⟩)))
    | succ m ih =>
      intro S I1 v7 hS f1 hU1 hall
      have hsl : sw i j S ≤ dAll D := sw_le hD hi hj (by omega)
      refine b175_8 (c27 (by omega) (fun d' _ => k27 hU1.1 hD (b175_17 ⟨⟨by omega, by omega⟩, ⟨by omega, by omega⟩, fun z => by omega, fun _ => ⟨⟨by omega, by omega⟩, fun c => ?_, fun c => b175_84 ?_⟩⟩)))
      · rw [zand_n (by omega) (by omega)] at c
        have c : S &&& (2 ^ i ||| 2 ^ j) = 2 ^ i := by omega
        obtain ⟨c1, c2⟩ := (and_both hij).mp c
        rw [zxor_n (by omega) (by omega)]
        have esw : (S ^^^ (2 ^ i ||| 2 ^ j)) = sw i j S := rfl
        rw [esw]
        have neq : ∀ l, l ≤ 1 → ¬ dBars D S p nb l = dBars D (sw i j S) p nb l → ¬ al1 D i j p nb := fun l hl hn hal => hn (hal S (by omega) c1 c2 l hl)
        refine c33 (by omega) (fun d' _ => k33 (l := 0) rfl rfl rfl rfl (by omega) hU1 (by omega) hp hnb (by omega) (fun I2 f2 hU2 => b175_46 ?_))
        refine c33 (by omega) (fun d' _ => k33 (l := 0) rfl rfl rfl rfl (by omega) hU2 hsl hp hnb (by omega) (fun I3 f3 hU3 => b175_56 ⟨dBars_r hD _ _ _ _, dBars_r hD _ _ _ _, fun q0 => ?_, fun q0 => h0 (neq 0 (by omega) (by omega)) I3 ((f1.tr f2).tr f3) hU3⟩))
        refine c33 (by omega) (fun d' _ => k33 (l := 1) rfl rfl rfl rfl (by omega) hU3 (by omega) hp hnb (by omega) (fun I4 f4 hU4 => b175_69 ?_))
        refine c33 (by omega) (fun d' _ => k33 (l := 1) rfl rfl rfl rfl (by omega) hU4 hsl hp hnb (by omega) (fun I5 f5 hU5 => b175_79 ⟨dBars_r hD _ _ _ _, dBars_r hD _ _ _ _, fun q1 => b175_84 ?_, fun q1 => h0 (neq 1 (by omega) (by omega)) I5 ((((f1.tr f2).tr f3).tr f4).tr f5) hU5⟩))
        rw [show (S : Int) + 1 = ((S + 1 : Nat) : Int) by omega]
        refine ih (S + 1) I5 _ (by omega) ((((f1.tr f2).tr f3).tr f4).tr f5) hU5 (fun S' hS' t1 t2 l hl => ?_)
        by_cases q : S' = S
        · rw [q]
          have : l = 0 ∨ l = 1 := by omega
          rcases this with z | z
          · rw [z]; omega
          · rw [z]; omega
        · exact hall S' (by omega) t1 t2 l hl
      · rw [zand_n (by omega) (by omega)] at c
        rw [show (S : Int) + 1 = ((S + 1 : Nat) : Int) by omega]
        refine ih (S + 1) I1 _ (by omega) f1 hU1 (fun S' hS' t1 t2 l hl => ?_)
        by_cases q : S' = S
        · rw [q] at t1 t2
          exact absurd (by rw [(and_both hij).mpr ⟨t1, t2⟩]) c
        · exact hall S' (by omega) t1 t2 l hl
  exact loop (dAll D + 1) 0 I _ (by omega) (FB.rf I) hU (fun S' hS' => by omega)
theorem k174 {x1 x2 : Int} {i j : Nat} (e1 : x1 = i) (e2 : x2 = j) (hd : 4 ≤ d) (hU : RU t I D) (hi : i < dT D) (hj : j < dT D) (hij : ¬ i = j) (h : ∀ (I' : Nat → Nat → Int), FB I I' → RU t I' D → Q (.inl (some (vi (((alB D i j).toNat : Nat) : Int)))) (z_cfg t, I', J)) : Go sc d mt_174 0 [vr 839, vi x1, vi x2, vn, vn] [] (z_cfg t, I, J) Q := by
  subst e1 e2
  have hD := hU.2.2.2
  have h8 := hD.2.1
  have hS4 := hD.1
  have hC := hU.1
  have ri := hC.2.2.2.2.2.1 i hi
  have rj := hC.2.2.2.2.2.1 j hj
  have wi := hD.2.2.2.2.2.1 i hi
  have wj := hD.2.2.2.2.2.1 j hj
  have no : ¬ (dWt D i = dWt D j ∧ dMi D i = dMi D j ∧ alP D i j) → ∀ (I' : Nat → Nat → Int), FB I I' → RU t I' D → Q (.inl (some (vi 0))) (z_cfg t, I', J) := fun hn I' f u => by
    have e : alB D i j = false := @decide_eq_false _ (Classical.propDecidable _) hn
    have := h I' f u
    rw [e] at this
    exact this
  have yes : (dWt D i = dWt D j ∧ dMi D i = dMi D j ∧ alP D i j) → ∀ (I' : Nat → Nat → Int), FB I I' → RU t I' D → Q (.inl (some (vi 1))) (z_cfg t, I', J) := fun hn I' f u => by
    have e : alB D i j = true := @decide_eq_true _ (Classical.propDecidable _) hn
    have := h I' f u
    rw [e] at this
    exact this
  have e2i : ∀ k : Nat, k < 8 → zshl 1 (k : Int) = ((2 ^ k : Nat) : Int) := fun k hk => by
    have := zshl_n (x := 1) (k := k) (by omega) (by have := Nat.pow_le_pow_right (n := 2) (by decide) (show k ≤ 8 by omega); omega)
    rw [Nat.one_mul] at this
    exact this
  refine b174_0 ?_
  rw [Int.toNat_natCast, Int.toNat_natCast, ri.1, rj.1, ri.2.1, rj.2.1]
  refine ⟨⟨by omega, by omega⟩, fun z => by omega, fun _ => ⟨fun _ => ⟨⟨by omega, by omega⟩, fun z => by omega, fun _ => ⟨fun _ => ⟨⟨by omega, by omega⟩, ⟨by omega, by omega⟩, fun c1 => ⟨⟨by omega, by omega⟩, ⟨by omega, by omega⟩, fun c2 => ?_, fun c2 => no (fun z => c2 (by rw [z.2.1])) I (FB.rf I) hU⟩, fun c1 => no (fun z => c1 (by rw [z.1])) I (FB.rf I) hU⟩, fun z => by omega⟩⟩, fun z => by omega⟩⟩
  have shores : ∀ (m p : Nat) (I1 : Nat → Nat → Int) (v4 : zV), p + m = dS D + 1 → FB I I1 → RU t I1 D → (∀ p', p' < p → ∀ nb, nb ≤ 2 → al1 D i j p' nb) → Go sc d mt_174 66 [vr 839, vi (i : Int), vi (j : Int), vi (p : Int), v4] [] (z_cfg t, I1, J) Q := by
    intro m
    induction m with
    | zero =>
      intro p I1 v4 hp f1 hU1 hall
      refine b174_66 ?_
      rw [hU1.1.1]
      exact ⟨⟨by omega, by omega⟩, ⟨by omega, by omega⟩, fun _ => yes ⟨by omega, by omega, fun p' hp' => hall p' (by omega)⟩ I1 f1 hU1, fun z => by omega⟩
    | succ m ih =>
      intro p I1 v4 hp f1 hU1 hall
      refine b174_66 ?_
      rw [hU1.1.1]
      refine ⟨⟨by omega, by omega⟩, ⟨by omega, by omega⟩, fun z => by omega, fun _ => ?_⟩
      have boats : ∀ (m2 nb : Nat) (I2 : Nat → Nat → Int), nb + m2 = 3 → FB I I2 → RU t I2 D → (∀ nb', nb' < nb → al1 D i j p nb') → Go sc d mt_174 80 [vr 839, vi (i : Int), vi (j : Int), vi (p : Int), vi (nb : Int)] [] (z_cfg t, I2, J) Q := by
        intro m2
        induction m2 with
        | zero =>
          intro nb I2 hnb f2 hU2 hal2
          refine b174_80 ⟨⟨by omega, by omega⟩, fun _ => ?_, fun z => by omega⟩
          rw [show (p : Int) + 1 = ((p + 1 : Nat) : Int) by omega]
          refine ih (p + 1) I2 _ (by omega) f2 hU2 (fun p' hp' nb' hnb' => ?_)
          by_cases q : p' = p
          · rw [q]; exact hal2 nb' (by omega)
          · exact hall p' (by omega) nb' hnb'
        | succ m2 ih2 =>
          intro nb I2 hnb f2 hU2 hal2
          refine b174_80 ⟨⟨by omega, by omega⟩, fun z => by omega, fun _ => ?_⟩
          refine c175 (by omega) (fun d' _ => k175 (e2i i (by omega)) (e2i j (by omega)) rfl rfl (by omega) hU2 hi hj hij (by omega) (by omega) (fun hy I3 f3 hU3 => b174_99 ⟨⟨by decide, by decide⟩, fun z => absurd z (by decide), fun _ => ?_⟩) (fun hn I3 f3 hU3 => b174_99 ⟨⟨by decide, by decide⟩, fun _ => no (fun z => hn (z.2.2 p (by omega) nb (by omega))) I3 (f2.tr f3) hU3, fun z => absurd rfl z⟩))
          rw [show (nb : Int) + 1 = ((nb + 1 : Nat) : Int) by omega]
          refine ih2 (nb + 1) I3 (by omega) (f2.tr f3) hU3 (fun nb' hnb' => ?_)
          by_cases q : nb' = nb
          · rw [q]; exact hy
          · exact hal2 nb' (by omega)
      exact boats 3 0 I1 (by omega) f1 hU1 (fun nb' hnb' => by omega)
  exact shores (dS D + 1) 0 I _ (by omega) (FB.rf I) hU (fun p' hp' => by omega)
theorem alS_s {i n : Nat} : alS D i (n + 1) = if (Nat.beq n i || alB D i n) = true then alS D i n ||| 2 ^ n else alS D i n := by
  have hl := msk_lt n (fun j => Nat.beq j i || alB D i j)
  apply Nat.eq_of_testBit_eq
  intro q
  unfold alS
  rw [msk_bit]
  by_cases c : (Nat.beq n i || alB D i n) = true
  · rw [if_pos c, Nat.testBit_or, msk_bit, Nat.testBit_two_pow]
    by_cases c2 : q = n
    · rw [c2, c, decide_eq_true (by omega : n < n + 1), decide_eq_true rfl, Bool.or_true]; rfl
    · rw [decide_eq_false (fun z : n = q => c2 z.symm), Bool.or_false]
      by_cases c3 : q < n
      · rw [decide_eq_true c3, decide_eq_true (by omega : q < n + 1)]
      · rw [decide_eq_false c3, decide_eq_false (by omega : ¬ q < n + 1)]
  · rw [if_neg c, msk_bit]
    by_cases c2 : q = n
    · rw [c2, decide_eq_true (by omega : n < n + 1), decide_eq_false (by omega : ¬ n < n), Bool.true_and, Bool.false_and]
      cases hq : (Nat.beq n i || alB D i n) with
      | true => exact absurd hq c
      | false => rfl
    · by_cases c3 : q < n
      · rw [decide_eq_true c3, decide_eq_true (by omega : q < n + 1)]
      · rw [decide_eq_false c3, decide_eq_false (by omega : ¬ q < n + 1)]
theorem k173 {x1 : Int} (hx : inR x1) (hd : 5 ≤ d) (hU : RU t I D) (htb : t_b t = t_rb t) (hno : ¬ (0 ≤ x1 ∧ x1 < dT D) → Q (.inr 0) (z_cfg (t_th t), z_zr I (aTh t), z_zr J (aTh t))) (h : (0 ≤ x1 ∧ x1 < dT D) → ∀ (I' : Nat → Nat → Int), FB I I' → RU t I' D → Q (.inl (some (vi ((alS D x1.toNat (dT D) : Nat) : Int)))) (z_cfg t, I', J)) : Go sc d mt_173 0 [vr 42, vi x1, vn, vn] [] (z_cfg t, I, J) Q := by
  have hD := hU.2.2.2
  have h8 := hD.2.1
  have hC : CD (t_b t) I D := by rw [htb]; exact hU.1
  refine b173_0 (c136 (by omega) (fun d' _ => k136 hx hC hD (fun hb => hno hb) (fun hr => b173_5 ?_)))
  have h := h hr
  obtain ⟨i, hi⟩ : ∃ i : Nat, x1 = i := ⟨x1.toNat, by omega⟩
  subst hi
  rw [Int.toNat_natCast] at h
  have hiT : i < dT D := by omega
  have loop : ∀ (m n : Nat) (I1 : Nat → Nat → Int), n + m = dT D → FB I I1 → RU t I1 D → Go sc d mt_173 9 [vr 42, vi (i : Int), vi ((alS D i n : Nat) : Int), vi (n : Int)] [] (z_cfg t, I1, J) Q := by
    intro m
    induction m with
    | zero =>
      intro n I1 hn f1 hU1
      have : n = dT D := by omega
      subst this
      have e1 : I1 (z_md (t_b t)) 1 = dT D := by rw [htb]; exact hU1.1.2.1
      refine b173_9 ?_
      rw [e1]
      exact ⟨⟨by omega, by omega⟩, ⟨by omega, by omega⟩, fun z => by omega, fun _ => h I1 f1 hU1⟩
    | succ m ih =>
      intro n I1 hn f1 hU1
      have e1 : I1 (z_md (t_b t)) 1 = dT D := by rw [htb]; exact hU1.1.2.1
      have hl := msk_lt n (fun j => Nat.beq j i || alB D i j)
      have hl : alS D i n < 2 ^ n := hl
      obtain ⟨b1, b2, b3⟩ := pw_lt hD (by omega : n < dT D)
      have hz : zshl 1 (n : Int) = ((2 ^ n : Nat) : Int) := by
        have := zshl_n (x := 1) (k := n) (by omega) (by omega)
        rw [Nat.one_mul] at this
        exact this
      have put : ∀ I2 : Nat → Nat → Int, FB I I2 → RU t I2 D → (Nat.beq n i || alB D i n) = true → Go sc d mt_173 37 [vr 42, vi (i : Int), vi ((alS D i n : Nat) : Int), vi (n : Int)] [] (z_cfg t, I2, J) Q := by
        intro I2 f2 hU2 hb
        refine b173_37 (b173_43 ?_)
        rw [hz, zor_n (by omega) (by omega), show (n : Int) + 1 = ((n + 1 : Nat) : Int) by omega]
        have := ih (n + 1) I2 (by omega) f2 hU2
        rw [alS_s, if_pos hb] at this
        exact this
      refine b173_9 ?_
      rw [e1]
      refine ⟨⟨by omega, by omega⟩, ⟨by omega, by omega⟩, fun _ => ⟨⟨by omega, by omega⟩, fun c => put I1 f1 hU1 ?_, fun c => ?_⟩, fun z => by omega⟩
      · have : n = i := by omega
        rw [this, show Nat.beq i i = true from Nat.beq_refl _]
        rfl
      · have hne : ¬ n = i := by omega
        refine c174 (by omega) (fun d' _ => k174 rfl rfl (by omega) hU1 hiT (by omega) (fun z => hne z.symm) (fun I2 f2 hU2 => b173_34 ?_))
        have hbq : Nat.beq n i = false := by
          cases hb : Nat.beq n i with
          | false => rfl
          | true => exact absurd (Nat.eq_of_beq_eq_true hb) hne
        cases ha : alB D i n with
        | true => exact ⟨⟨by decide, by decide⟩, fun z => absurd z (by decide), fun _ => put I2 (f1.tr f2) hU2 (by rw [ha, Bool.or_true])⟩
        | false =>
          refine ⟨⟨by decide, by decide⟩, fun _ => b173_43 ?_, fun z => absurd rfl z⟩
          rw [show (n : Int) + 1 = ((n + 1 : Nat) : Int) by omega]
          have := ih (n + 1) I2 (by omega) (f1.tr f2) hU2
          rw [alS_s, if_neg (by rw [hbq, ha]; decide)] at this
          exact this
  exact loop (dT D) 0 I (by omega) (FB.rf I) hU
end
