/-! ===== rounds, the reference: small, large, comes ===== -/
theorem tb_hi (b : Bool) {k : Nat} (hk : 1 ≤ k) : b.toNat.testBit k = false := Nat.testBit_lt_two_pow (Nat.lt_of_le_of_lt (Bool.toNat_le b) (Nat.one_lt_two_pow (by omega)))
theorem tb_lo (b : Bool) : b.toNat.testBit 0 = b := by cases b <;> rfl
theorem small_v {n : Nat} (h : n < 1024) : ((n % 256 ||| (n.testBit 8).toNat * 2 ^ 8) ||| (n.testBit 9).toNat * 2 ^ 9) = n := by
  apply Nat.eq_of_testBit_eq
  intro i
  have e : (n % 2 ^ 8).testBit i = (decide (i < 8) && n.testBit i) := Nat.testBit_mod_two_pow _ _ _
  have e : (n % 256).testBit i = (decide (i < 8) && n.testBit i) := e
  rw [Nat.testBit_or, Nat.testBit_or, e, Nat.testBit_mul_two_pow, Nat.testBit_mul_two_pow]
  by_cases c : i < 8
  · rw [decide_eq_true c, decide_eq_false (by omega : ¬ 8 ≤ i), decide_eq_false (by omega : ¬ 9 ≤ i)]
    cases n.testBit i <;> rfl
  · rw [decide_eq_false c, decide_eq_true (by omega : 8 ≤ i)]
    by_cases c8 : i = 8
    · subst c8
      rw [decide_eq_false (by omega : ¬ 9 ≤ 8), tb_lo]
      cases n.testBit 8 <;> rfl
    · rw [decide_eq_true (by omega : 9 ≤ i), tb_hi _ (by omega : 1 ≤ i - 8)]
      by_cases c9 : i = 9
      · subst c9
        rw [tb_lo]
        cases n.testBit 9 <;> rfl
      · rw [tb_hi _ (by omega : 1 ≤ i - 9), Nat.testBit_lt_two_pow (x := n) (i := i) (Nat.lt_of_lt_of_le h (Nat.pow_le_pow_right (n := 2) (by omega) (by omega : 10 ≤ i)))]
        rfl
def rMB (n j i : Nat) : Bool := if i < 16 then (decide (i % 2 = 0) && decide (i / 2 < j)) && n.testBit (i / 2) else if i = 16 then n.testBit 8 else if i = 18 then n.testBit 9 else false
def rM (n j : Nat) : Nat := msk 22 (rMB n j)
theorem rM_bit (n j i : Nat) : (rM n j).testBit i = (decide (i < 22) && rMB n j i) := msk_bit _ _ _
theorem rM_lt (n j : Nat) : rM n j < 4194304 := msk_lt 22 _
theorem rM_0 (n : Nat) : rM n 0 = (n.testBit 8).toNat * 2 ^ 16 ||| (n.testBit 9).toNat * 2 ^ 18 := by
  apply Nat.eq_of_testBit_eq
  intro i
  rw [rM_bit, Nat.testBit_or, Nat.testBit_mul_two_pow, Nat.testBit_mul_two_pow]
  unfold rMB
  by_cases c : i < 16
  · rw [if_pos c, decide_eq_false (by omega : ¬ i / 2 < 0), decide_eq_false (by omega : ¬ 16 ≤ i), decide_eq_false (by omega : ¬ 18 ≤ i)]
    simp
  · rw [if_neg c, decide_eq_true (by omega : 16 ≤ i)]
    by_cases c1 : i = 16
    · subst c1
      rw [if_pos rfl, tb_lo, decide_eq_false (by omega : ¬ 18 ≤ 16), decide_eq_true (by omega : 16 < 22)]
      cases n.testBit 8 <;> rfl
    · rw [if_neg c1, tb_hi _ (by omega : 1 ≤ i - 16)]
      by_cases c2 : i = 18
      · subst c2
        rw [if_pos rfl, tb_lo, decide_eq_true (by omega : 18 ≤ 18), decide_eq_true (by omega : 18 < 22)]
        cases n.testBit 9 <;> rfl
      · rw [if_neg c2, Bool.and_false, Bool.and_false, Bool.false_or]
        by_cases c3 : 18 ≤ i
        · rw [tb_hi _ (by omega : 1 ≤ i - 18), Bool.and_false]
        · rw [decide_eq_false c3, Bool.false_and]
theorem rM_s {n j : Nat} (hj : j < 8) : rM n j ||| (n.testBit j).toNat * 2 ^ (2 * j) = rM n (j + 1) := by
  apply Nat.eq_of_testBit_eq
  intro i
  rw [Nat.testBit_or, rM_bit, rM_bit, Nat.testBit_mul_two_pow]
  unfold rMB
  by_cases c : i < 16
  · rw [if_pos c, if_pos c, decide_eq_true (by omega : i < 22)]
    by_cases c1 : i = 2 * j
    · subst c1
      rw [decide_eq_true (by omega : 2 * j % 2 = 0), decide_eq_false (by omega : ¬ 2 * j / 2 < j), decide_eq_true (by omega : 2 * j / 2 < j + 1), decide_eq_true (Nat.le_refl _), Nat.sub_self, tb_lo, show 2 * j / 2 = j by omega]
      cases n.testBit j <;> rfl
    · have e2 : (decide (2 * j ≤ i) && (n.testBit j).toNat.testBit (i - 2 * j)) = false := by
        by_cases c2 : 2 * j ≤ i
        · rw [tb_hi _ (by omega), Bool.and_false]
        · rw [decide_eq_false c2, Bool.false_and]
      rw [e2, Bool.or_false]
      by_cases c3 : i % 2 = 0
      · have e3 : decide (i / 2 < j) = decide (i / 2 < j + 1) := by
          by_cases c4 : i / 2 < j
          · rw [decide_eq_true c4, decide_eq_true (by omega)]
          · rw [decide_eq_false c4, decide_eq_false (by omega)]
        rw [e3]
      · rw [decide_eq_false c3]
        rfl
  · rw [if_neg c, if_neg c, tb_hi _ (by omega : 1 ≤ i - 2 * j), Bool.and_false, Bool.or_false]
theorem rM_SR {D : tD} {n : Nat} (hD : dOk D) (h1 : n < 1024) (h2 : n % 256 ≤ dAll D) : SR (cs n) (rM n (dT D)) := by
  have hM := CM_cs (D := D) h1 h2
  refine ⟨rM_lt _ _, fun i hi => ?_, fun u hu hu2 => ?_⟩
  · rw [hM.2.2.1 i hi, dg_bits, rM_bit, rM_bit, decide_eq_true (by omega : 2 * i < 22), decide_eq_true (by omega : 2 * i + 1 < 22)]
    unfold rMB
    rw [if_pos (by omega), if_pos (by omega), decide_eq_true (by omega : 2 * i % 2 = 0), decide_eq_false (by omega : ¬ (2 * i + 1) % 2 = 0), show 2 * i / 2 = i by omega]
    by_cases c : i < dT D
    · rw [decide_eq_true c]
      cases n.testBit i <;> rfl
    · rw [decide_eq_false c, hM.hi (by omega) hi]
      rfl
  · have e : ∀ i, 16 ≤ i → i < 22 → (rM n (dT D)).testBit i = (cs n).testBit i := fun i a b => by
      rw [rM_bit, cs_bit b, decide_eq_true b, Bool.true_and]
      unfold rMB csB
      rw [if_neg (by omega : ¬ i < 16), if_neg (by omega : ¬ i < 8)]
    rw [dg_bits, dg_bits, e _ (by omega) (by omega), e _ (by omega) (by omega)]
/-- the reference's row of rounds -/
def RDp (I : Nat → Nat → Int) (dp : Nat → Int) : Prop := ∀ m, m < 1024 → I 3284 m = dp m ∧ -1 ≤ dp m ∧ dp m ≤ 2000
def rFW (I I' : Nat → Nat → Int) : Prop := ∀ a, ¬ a = 2612 → ¬ a = 2644 → ¬ a = 3284 → I' a = I a
theorem rFW.rf (I : Nat → Nat → Int) : rFW I I := fun _ _ _ _ => rfl
theorem rFW.tr {I I1 I2 : Nat → Nat → Int} (h : rFW I I1) (h' : rFW I1 I2) : rFW I I2 := fun a h1 h2 h3 => (h' a h1 h2 h3).trans (h a h1 h2 h3)
theorem rFW.fr {I I' : Nat → Nat → Int} (h : FR I I') : rFW I I' := fun a h1 h2 _ => h a h1 h2
theorem RDp.fr {I I' : Nat → Nat → Int} {dp : Nat → Int} (h : RDp I dp) (f : FR I I') : RDp I' dp := by
  unfold RDp
  rw [f 3284 (by decide) (by decide)]
  exact h
theorem RV.r3 {I I' : Nat → Nat → Int} {D : tD} {ho lo : Nat} (h : RV I D ho lo) (f : ∀ a, ¬ a = 3284 → I' a = I a) : RV I' D ho lo := ⟨h.1.fr (fun k _ => by rw [f 1835 (by decide)]) (fun a ha => f a (by omega)), fun S p q l z1 z2 z3 z4 z5 => by rw [f 2612 (by decide)]; exact h.2.1 S p q l z1 z2 z3 z4 z5, h.2.2⟩
section
variable {sc : mS} {d : Nat} {t : zT} {I J : Nat → Nat → Int} {Q : zR → zW → Prop} {D : tD} {ho lo : Nat}
theorem CM.dg {n s r b : Nat} (h : CM D n s) (hs : SR s r) (hb : b < 2) : dg r (8 + b) = (n.testBit (8 + b)).toNat := by
  rw [hs.2.2 (8 + b) (by omega) (by omega), ← lberth_eq, h.2.2.2.1 b hb]
theorem k270 {x1 : Int} {n s r : Nat} (e1 : x1 = r) (hd : 1 ≤ d) (hR : RD I D ho lo) (hD : dOk D) (hs : SR s r) (hM : CM D n s) (h : Q (.inl (some (vi (n : Int)))) (z_cfg t, I, J)) : Go sc d mt_270 0 [vr 1835, vi x1] [] (z_cfg t, I, J) Q := by
  subst e1
  have hr := hs.1
  have b8 := Bool.toNat_le (n.testBit 8)
  have b9 := Bool.toNat_le (n.testBit 9)
  refine b270_0 (c245 hd (fun d' _ => k245 (p := 1) rfl rfl hR hD hs (by decide) (b270_6 ?_)))
  refine c244 hd (fun d' _ => k244 (b := 0) rfl rfl hr (by decide) (b270_11 ?_))
  rw [hM.l1 hD, hM.and hD, hM.dg hs (by decide : 0 < 2)]
  have e8 : zshl (((n.testBit (8 + 0)).toNat : Nat) : Int) 8 = (((n.testBit 8).toNat * 2 ^ 8 : Nat) : Int) := zshl_n (x := (n.testBit 8).toNat) (k := 8) (by decide) (by omega)
  have o1 : n % 256 ||| (n.testBit 8).toNat * 2 ^ 8 < 2 ^ 9 := Nat.or_lt_two_pow (by omega) (by omega)
  rw [e8, zor_n (by omega) (by omega)]
  refine c244 hd (fun d' _ => k244 (b := 1) rfl rfl hr (by decide) (b270_20 ?_))
  rw [hM.dg hs (by decide : 1 < 2)]
  have e9 : zshl (((n.testBit (8 + 1)).toNat : Nat) : Int) 9 = (((n.testBit 9).toNat * 2 ^ 9 : Nat) : Int) := zshl_n (x := (n.testBit 9).toNat) (k := 9) (by decide) (by omega)
  rw [e9, zor_n (by omega) (by omega), small_v hM.1]
  exact h
theorem k271 {x1 : Int} {n : Nat} (e1 : x1 = n) (hR : RD I D ho lo) (hD : dOk D) (h1 : n < 1024) (h2 : n % 256 ≤ dAll D) (h : ∀ r, SR (cs n) r → Q (.inl (some (vi (r : Nat)))) (z_cfg t, I, J)) : Go sc d mt_271 0 [vr 1835, vi x1, vn, vn] [] (z_cfg t, I, J) Q := by
  subst e1
  have hT := hD.2.1
  have loop : ∀ (m j : Nat), j + m = dT D → Go sc d mt_271 22 [vr 1835, vi (n : Int), vi ((rM n j : Nat) : Int), vi (j : Int)] [] (z_cfg t, I, J) Q := by
    intro m
    induction m with
    | zero =>
      intro j hj
      have : j = dT D := by omega
      subst this
      refine b271_22 ?_
      rw [hR.2.1]
      exact ⟨⟨by omega, by omega⟩, ⟨by omega, by omega⟩, fun z => by omega, fun _ => h _ (rM_SR hD h1 h2)⟩
    | succ m ih =>
      intro j hj
      have bj := Bool.toNat_le (n.testBit j)
      have hl := rM_lt n j
      have hp : 2 ^ (2 * j) ≤ 2 ^ 14 := Nat.pow_le_pow_right (by omega) (by omega)
      have hq : (n.testBit j).toNat * 2 ^ (2 * j) ≤ 1 * 2 ^ 14 := Nat.mul_le_mul bj hp
      refine b271_22 ?_
      rw [hR.2.1, zbit (by omega) (by omega), show (2 : Int) * (j : Int) = ((2 * j : Nat) : Int) by omega, zshl_n (by omega) (by omega), zor_n (by omega) (by omega), rM_s (by omega), show (j : Int) + 1 = ((j + 1 : Nat) : Int) by omega]
      exact ⟨⟨by omega, by omega⟩, ⟨by omega, by omega⟩, fun _ => ih (j + 1) (by omega), fun z => by omega⟩
  have b8 := Bool.toNat_le (n.testBit 8)
  have b9 := Bool.toNat_le (n.testBit 9)
  refine b271_0 ?_
  have e8 : zand (zshr (n : Int) 8) 1 = (((n.testBit 8).toNat : Nat) : Int) := zbit (k := 8) (by omega) (by omega)
  have e9 : zand (zshr (n : Int) 9) 1 = (((n.testBit 9).toNat : Nat) : Int) := zbit (k := 9) (by omega) (by omega)
  have s8 : zshl (((n.testBit 8).toNat : Nat) : Int) 16 = (((n.testBit 8).toNat * 2 ^ 16 : Nat) : Int) := zshl_n (k := 16) (by decide) (by omega)
  have s9 : zshl (((n.testBit 9).toNat : Nat) : Int) 18 = (((n.testBit 9).toNat * 2 ^ 18 : Nat) : Int) := zshl_n (k := 18) (by decide) (by omega)
  rw [e8, e9, s8, s9, zor_n (by omega) (by omega), ← rM_0]
  exact loop (dT D) 0 (by omega)
theorem k273 {x1 v : Int} {m s r : Nat} {dp : Nat → Int} (e1 : x1 = r) (hd : 5 ≤ d) (hV : RV I D ho lo) (hw : I 1835 52 = -1) (hT : rTold D) (hs : SR s r) (hM : CM D m s) (hp : RDp I dp) (hv : 0 ≤ v ∧ v ≤ 2000)
    (h1 : rBar D m (dAll D) 3 = false → dp m = -1 → ∀ (I' : Nat → Nat → Int), rFW I I' → RV I' D ho lo → RDp I' (upI dp m v) → Q (.inl none) (z_cfg t, I', J))
    (h0 : (¬ rBar D m (dAll D) 3 = false ∨ ¬ dp m = -1) → ∀ (I' : Nat → Nat → Int), rFW I I' → RV I' D ho lo → RDp I' dp → Q (.inl none) (z_cfg t, I', J)) : Go sc d mt_273 0 [vr 1835, vi x1, vi v] [] (z_cfg t, I, J) Q := by
  subst e1
  have hD := hV.2.2
  have hm := hM.1
  have hlt : dShores D s < 2 ^ 12 := orN_lt (fun i _ => dBars_lt hD _ _ _ _)
  have key := hM.shores hD hT
  refine b273_0 (c243 (by omega) (fun d' _ => k243a rfl (by omega) hV hs hw (fun I1 f1 V1 => b273_8 ?_)))
  have P1 := hp.fr f1
  refine ⟨⟨by omega, by omega⟩, fun c => ?_, fun c => h0 (Or.inl (fun z => c (by rw [key.2 z]; rfl))) I1 (rFW.fr f1) V1 P1⟩
  have hb := key.1 (by omega)
  have pm := P1 m hm
  refine c270 (by omega) (fun d' _ => k270 rfl (by omega) V1.1 hD hs hM (b273_20 ?_))
  rw [Int.toNat_natCast, pm.1]
  refine ⟨⟨by omega, by omega⟩, ⟨by omega, by omega⟩, fun c2 => ?_, fun c2 => h0 (Or.inr c2) I1 (rFW.fr f1) V1 P1⟩
  refine c270 (by omega) (fun d' _ => k270 rfl (by omega) V1.1 hD hs hM (b273_34 ⟨⟨by omega, by omega⟩, ?_⟩))
  rw [Int.toNat_natCast]
  refine h1 hb c2 _ (fun a a1 a2 a3 => by rw [zu_ne a3]; exact f1 a a1 a2) (V1.r3 (fun a a1 => zu_ne a1)) (fun y hy => ?_)
  rw [zu_at]
  unfold upI
  by_cases z : y = m
  · rw [if_pos z, if_pos z]; exact ⟨rfl, by omega, hv.2⟩
  · rw [if_neg z, if_neg z]; exact P1 y hy
end
