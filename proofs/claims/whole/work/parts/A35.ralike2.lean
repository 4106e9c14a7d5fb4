/-! ===== the reference: alike, whole; law, back, fault ===== -/
section
variable {sc : mS} {d : Nat} {t : zT} {I J : Nat → Nat → Int} {Q : zR → zW → Prop} {D : tD} {ho lo : Nat}
theorem or_right {a b c : Nat} : a ||| b ||| c = a ||| c ||| b := by rw [Nat.or_assoc, Nat.or_comm b c, ← Nat.or_assoc]
theorem alS_i {i n : Nat} (h : i < n) : alS D i n ||| 2 ^ i = alS D i n := by
  apply Nat.eq_of_testBit_eq
  intro q
  rw [Nat.testBit_or, Nat.testBit_two_pow]
  by_cases c : i = q
  · have : (alS D i n).testBit q = true := by
      unfold alS
      rw [msk_bit, ← c, decide_eq_true h, show Nat.beq i i = true from Nat.beq_refl _]
      rfl
    rw [this]
    rfl
  · rw [decide_eq_false c, Bool.or_false]
theorem k231 {x1 : Int} (hx : inR x1) (hd : 5 ≤ d) (hV : RV I D ho lo) (hno : ¬ (0 ≤ x1 ∧ x1 < dT D) → Q (.inl (some (vi 0))) (z_cfg t, z_u (z_u I 1835 0 0) 1835 0 1, J)) (h : (0 ≤ x1 ∧ x1 < dT D) → ∀ (I' : Nat → Nat → Int), FR (z_u I 1835 0 0) I' → RV I' D ho lo → Q (.inl (some (vi ((alS D x1.toNat (dT D) : Nat) : Int)))) (z_cfg t, I', J)) : Go sc d mt_231 0 [vr 1835, vi x1, vn, vn] [] (z_cfg t, I, J) Q := by
  have hD := hV.2.2
  have h8 := hD.2.1
  have V1 := hV.f0 (v := 0)
  have bad : ¬ (0 ≤ x1 ∧ x1 < dT D) → Go sc d mt_231 22 [vr 1835, vi x1, vn, vn] [vr 1835] (z_cfg t, z_u I 1835 0 0, J) Q := fun hb => b231_22 (b231_23 (c189 (by omega) (fun d' _ => k189n rfl (zu_same _ _ _ _) (b231_27 ⟨⟨by decide, by decide⟩, fun _ => hno hb, fun z => absurd rfl z⟩))))
  refine b231_0 ?_
  rw [hV.1.2.1]
  refine ⟨hx, fun c => bad (by omega), fun c => ⟨⟨by omega, by omega⟩, fun c2 => ?_, fun c2 => bad (by omega)⟩⟩
  have h := h (by omega)
  obtain ⟨i, hi⟩ : ∃ i : Nat, x1 = i := ⟨x1.toNat, by omega⟩
  subst hi
  rw [Int.toNat_natCast] at h
  have hiT : i < dT D := by omega
  have ez : ∀ k : Nat, k < 8 → zshl 1 (k : Int) = ((2 ^ k : Nat) : Int) := fun k hk => by
    have := zshl_n (x := 1) (k := k) (by omega) (by have := Nat.pow_le_pow_right (n := 2) (by decide) (show k ≤ 8 by omega); omega)
    rw [Nat.one_mul] at this
    exact this
  refine b231_23 (c189 (by omega) (fun d' _ => k189y rfl (zu_same _ _ _ _) (b231_27 ⟨⟨by decide, by decide⟩, fun z => absurd z (by decide), fun _ => ?_⟩)))
  rw [ez i (by omega)]
  obtain ⟨a1, a2, a3⟩ := pw_lt hD hiT
  have wi := hD.2.2.2.2.2.1 i hiT
  have loop : ∀ (m n : Nat) (I1 : Nat → Nat → Int), n + m = dT D → FR (z_u I 1835 0 0) I1 → RV I1 D ho lo → Go sc d mt_231 38 [vr 1835, vi (i : Int), vi ((alS D i n ||| 2 ^ i : Nat) : Int), vi (n : Int)] [] (z_cfg t, I1, J) Q := by
    intro m
    induction m with
    | zero =>
      intro n I1 hn f1 hV1
      have : n = dT D := by omega
      subst this
      refine b231_38 ?_
      rw [hV1.1.2.1, alS_i hiT]
      exact ⟨⟨by omega, by omega⟩, ⟨by omega, by omega⟩, fun z => by omega, fun _ => h I1 f1 hV1⟩
    | succ m ih =>
      intro n I1 hn f1 hV1
      have hnT : n < dT D := by omega
      obtain ⟨b1, -, -⟩ := pw_lt hD hnT
      have hl : alS D i n < 2 ^ n := msk_lt n (fun j => Nat.beq j i || alB D i j)
      have hv : alS D i n ||| 2 ^ i < 2 ^ dT D := Nat.or_lt_two_pow (by omega) a1
      have wn := hD.2.2.2.2.2.1 n hnT
      have r1 := hV1.1.2.2.2.2.2.1 i hiT
      have r2 := hV1.1.2.2.2.2.2.1 n hnT
      have skip : ∀ I2 : Nat → Nat → Int, FR (z_u I 1835 0 0) I2 → RV I2 D ho lo → (n = i ∨ alB D i n = false) → Go sc d mt_231 96 [vr 1835, vi (i : Int), vi ((alS D i n ||| 2 ^ i : Nat) : Int), vi (n : Int)] [] (z_cfg t, I2, J) Q := by
        intro I2 f2 hV2 hor
        refine b231_96 ?_
        rw [show (n : Int) + 1 = ((n + 1 : Nat) : Int) by omega]
        have := ih (n + 1) I2 (by omega) f2 hV2
        rw [alS_s] at this
        by_cases q : n = i
        · rw [if_pos (by rw [q, show Nat.beq i i = true from Nat.beq_refl _]; rfl), show alS D i n ||| 2 ^ n ||| 2 ^ i = alS D i n ||| 2 ^ i by rw [q, Nat.or_assoc, Nat.or_self]] at this
          exact this
        · have hbq : Nat.beq n i = false := by
            cases hb : Nat.beq n i with
            | false => rfl
            | true => exact absurd (Nat.eq_of_beq_eq_true hb) q
          rw [if_neg (by rw [hbq, hor.resolve_left q]; decide)] at this
          exact this
      have noal : ¬ (dWt D i = dWt D n ∧ dMi D i = dMi D n ∧ alP D i n) → alB D i n = false := fun hn => @decide_eq_false _ (Classical.propDecidable _) hn
      refine b231_38 ?_
      rw [hV1.1.2.1, Int.toNat_natCast, Int.toNat_natCast, r1.1, r2.1, r1.2.1, r2.2.1]
      refine ⟨⟨by omega, by omega⟩, ⟨by omega, by omega⟩, fun _ => ⟨⟨by omega, by omega⟩, fun c3 => skip I1 f1 hV1 (Or.inl (by omega)), fun c3 => ⟨⟨by omega, by omega⟩, ⟨by omega, by omega⟩, ⟨by omega, by omega⟩, ⟨by omega, by omega⟩, fun c4 => ⟨⟨by omega, by omega⟩, ⟨by omega, by omega⟩, fun c5 => ?_, fun c5 => skip I1 f1 hV1 (Or.inr (noal (fun z => c5 (by rw [z.2.1]))))⟩, fun c4 => skip I1 f1 hV1 (Or.inr (noal (fun z => c4 (by rw [z.1]))))⟩⟩, fun z => by omega⟩
      have hne : ¬ i = n := by omega
      refine c232 (by omega) (fun d' _ => k232 rfl rfl (by omega) hV1 hiT hnT hne (fun hy I2 f2 hV2 => b231_87 ⟨⟨by decide, by decide⟩, fun z => absurd z (by decide), fun _ => b231_96 ?_⟩) (fun hn2 I2 f2 hV2 => b231_87 ⟨⟨by decide, by decide⟩, fun _ => skip I2 (f1.tr f2) hV2 (Or.inr (noal (fun z => hn2 z.2.2))), fun z => absurd rfl z⟩))
      have ha : alB D i n = true := @decide_eq_true _ (Classical.propDecidable _) ⟨by omega, by omega, hy⟩
      have := ih (n + 1) I2 (by omega) (f1.tr f2) hV2
      rw [alS_s, if_pos (by rw [ha, Bool.or_true]), or_right] at this
      rw [ez n (by omega), zor_n (by omega) (by omega), show (n : Int) + 1 = ((n + 1 : Nat) : Int) by omega]
      exact this
  have := loop (dT D) 0 (z_u I 1835 0 0) (by omega) (FR.rf _) V1
  have e0 : alS D i 0 ||| 2 ^ i = 2 ^ i := by
    have : alS D i 0 = 0 := rfl
    rw [this, Nat.zero_or]
  rw [e0] at this
  exact this
/-- back, of the play -/
theorem k94 {mk : Nat} {ps pm : Nat → Nat} {lw : Int} (hP : PC I mk ps pm lw) (hm : mk ≤ 60) (h : ∀ (I' : Nat → Nat → Int), (∀ a, ¬ a = 1732 → I' a = I a) → PC I' (mk - 1) ps pm lw → Q (.inl (some (vi (if mk = 0 then -1 else (mk : Int) - 1)))) (z_cfg t, I', J)) : Go sc d mt_94 0 [vr 42] [] (z_cfg t, I, J) Q := by
  refine b94_0 ?_
  rw [hP.1]
  refine ⟨⟨by omega, by omega⟩, fun c => ?_, fun c => ?_⟩
  · have := h I (fun _ _ => rfl) (by rw [show mk - 1 = mk by omega]; exact hP)
    rw [if_pos (by omega)] at this
    exact this
  · have := h (z_u I 1732 0 ((mk : Int) - 1)) (fun a ha => zu_ne ha) ⟨by rw [zu_same]; omega, by rw [zu_nk (by decide : ¬ 1 = 0)]; exact hP.2.1, fun i hi => by rw [zu_ne (by decide : ¬ 1780 = 1732), zu_ne (by decide : ¬ 1812 = 1732)]; exact hP.2.2 i (by omega)⟩
    rw [if_neg (by omega)] at this
    exact this
theorem k279 {mk : Nat} {ps pm : Nat → Nat} {lw : Int} (hP : PR I mk ps pm lw) (hm : mk ≤ 60) (h : ∀ (I' : Nat → Nat → Int), FC I I' → (∀ k, ¬ k = 0 → ¬ k = 84 → I' 1835 k = I 1835 k) → (∀ a, ¬ a = 1835 → I' a = I a) → I' 1835 0 = 0 → PR I' (mk - 1) ps pm lw → Q (.inl (some (vi (if mk = 0 then -1 else (mk : Int) - 1)))) (z_cfg t, I', J)) : Go sc d mt_279 0 [vr 1835] [] (z_cfg t, I, J) Q := by
  refine b279_0 ?_
  rw [hP.1]
  refine ⟨⟨by omega, by omega⟩, fun c => ?_, fun c => ?_⟩
  · have := h (z_u I 1835 0 0) (FC.f (by omega)) (fun k k0 _ => zu_nk k0) (fun a ha => zu_ne ha) (zu_same _ _ _ _) ⟨by rw [zu_nk (by decide : ¬ 84 = 0), hP.1]; omega, by rw [zu_nk (by decide : ¬ 85 = 0)]; exact hP.2.1, fun i hi => by rw [zu_ne (by decide : ¬ 3316 = 1835), zu_ne (by decide : ¬ 3348 = 1835)]; exact hP.2.2 i (by omega)⟩
    rw [if_pos (by omega)] at this
    exact this
  · have := h (z_u (z_u I 1835 0 0) 1835 84 ((mk : Int) - 1)) ((FC.f (by omega)).tr (FC.f (by omega))) (fun k k0 k1 => by rw [zu_nk k1, zu_nk k0]) (fun a ha => by rw [zu_ne ha, zu_ne ha]) (by rw [zu_nk (by decide : ¬ 0 = 84), zu_same]) ⟨by rw [zu_same]; omega, by rw [zu_nk (by decide : ¬ 85 = 84), zu_nk (by decide : ¬ 85 = 0)]; exact hP.2.1, fun i hi => by rw [zu_ne (by decide : ¬ 3316 = 1835), zu_ne (by decide : ¬ 3316 = 1835), zu_ne (by decide : ¬ 3348 = 1835), zu_ne (by decide : ¬ 3348 = 1835)]; exact hP.2.2 i (by omega)⟩
    rw [if_neg (by omega)] at this
    exact this
end
