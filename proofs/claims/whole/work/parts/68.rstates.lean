/-! ===== the reference's own methods over states ===== -/
theorem dg_ext {r r' : Nat} (h : r < 4194304) (h' : r' < 4194304) (e : ∀ u, u < 11 → dg r u = dg r' u) : r = r' := by
  apply Nat.eq_of_testBit_eq
  intro i
  by_cases hi : i < 22
  · obtain ⟨g1, g2⟩ := dg_inj (e (i / 2) (by omega))
    by_cases hp : i % 2 = 0
    · rw [show 2 * (i / 2) = i by omega] at g1
      exact g1
    · rw [show 2 * (i / 2) + 1 = i by omega] at g2
      exact g2
  · rw [bit22 h (by omega), bit22 h' (by omega)]
theorem zdg {r u : Nat} (hr : r < 4194304) (hu : u < 11) : zand (zshr (r : Int) ((2 * u : Nat) : Int)) 3 = (dg r u : Int) := by
  have := Nat.div_le_self r (2 ^ (2 * u))
  rw [zshr_n (by omega) (by omega), show (3 : Int) = ((3 : Nat) : Int) from rfl, zandm 3 2 rfl (by omega) (by omega)]
  rfl
theorem rset_or {v u p : Nat} (hp : p < 4) (h : dg v u = 0) : v ||| p * 2 ^ (2 * u) = rset v u p := by
  have h0 : v.testBit (2 * u) = false ∧ v.testBit (2 * u + 1) = false := by
    rw [dg_bits] at h
    cases h1 : v.testBit (2 * u) <;> cases h2 : v.testBit (2 * u + 1) <;> rw [h1, h2] at h <;> first | exact ⟨rfl, rfl⟩ | (exfalso; revert h; decide)
  apply Nat.eq_of_testBit_eq
  intro i
  by_cases hi : i < 2 * u ∨ 2 * u + 2 ≤ i
  · rw [rset_out hp hi, Nat.testBit_or, Nat.testBit_mul_two_pow]
    rcases hi with hi | hi
    · rw [decide_eq_false (by omega)]
      simp
    · rw [bit_lt4 hp (by omega)]
      simp
  · rw [rset_bit, Nat.testBit_or, Nat.testBit_mul_two_pow]
    have : v.testBit i = false := by
      by_cases hq : i = 2 * u
      · rw [hq]; exact h0.1
      · rw [show i = 2 * u + 1 by omega]; exact h0.2
    rw [this]
    simp
theorem p_sh {u p : Nat} (hu : u < 11) (hp : p < 4) : p * 2 ^ (2 * u) < 4194304 := by
  have h1 : 2 ^ (2 * u) ≤ 2 ^ 20 := Nat.pow_le_pow_right (by omega) (by omega)
  have h2 : p * 2 ^ (2 * u) ≤ 3 * 2 ^ 20 := Nat.mul_le_mul (by omega) h1
  omega
theorem zrset {v u p : Nat} (hv : v < 4194304) (hu : u < 11) (hp : p < 4) : zor (zand (v : Int) (zxor (zshl 3 ((2 * u : Nat) : Int)) (-1))) (zshl (p : Int) ((2 * u : Nat) : Int)) = ((rset v u p : Nat) : Int) := by
  have g1 := p_sh hu (p := 3) (by omega)
  have g2 := p_sh hu hp
  have g3 := ndiff_le v (3 * 2 ^ (2 * u))
  have e3 : zshl 3 ((2 * u : Nat) : Int) = ((3 * 2 ^ (2 * u) : Nat) : Int) := zshl_n (x := 3) (by omega) (by omega)
  rw [e3, zshl_n (by omega) (by omega), zandn_n (by omega) (by omega), zor_n (by omega) (by omega)]
  rfl
section
variable {sc : mS} {d : Nat} {t : zT} {I J : Nat → Nat → Int} {Q : zR → zW → Prop} {D : tD} {ho lo : Nat}
theorem k222 (hR : RD I D ho lo) (hD : dOk D) (h : Q (.inl (some (vi (dAll D)))) (z_cfg t, I, J)) : Go sc d mt_222 0 [vr 1835] [] (z_cfg t, I, J) Q := by
  refine b222_0 ?_
  have h8 := hD.2.1
  have h1 : 2 ^ dT D ≤ 2 ^ 8 := Nat.pow_le_pow_right (by omega) h8
  have h2 := Nat.two_pow_pos (dT D)
  have e : zshl 1 (dT D : Int) = ((1 * 2 ^ dT D : Nat) : Int) := zshl_n (x := 1) (by omega) (by omega)
  rw [hR.2.1, e, show ((1 * 2 ^ dT D : Nat) : Int) - 1 = ((2 ^ dT D - 1 : Nat) : Int) by omega]
  exact h
theorem k244 {x0 x1 : Int} {r b : Nat} (e0 : x0 = r) (e1 : x1 = b) (hr : r < 4194304) (hb : b < 2) (h : Q (.inl (some (vi (dg r (8 + b))))) (z_cfg t, I, J)) : Go sc d mt_244 0 [vi x0, vi x1] [] (z_cfg t, I, J) Q := by
  subst e0 e1
  refine b244_0 ?_
  rw [show (16 : Int) + 2 * (b : Int) = ((2 * (8 + b) : Nat) : Int) by omega, zdg hr (by omega)]
  exact h
theorem k245loop {s r p : Nat} (hR : RD I D ho lo) (hD : dOk D) (hs : SR s r) (hp : p < 4) (h : Q (.inl (some (vi (lash s p (dT D))))) (z_cfg t, I, J)) : ∀ (m k : Nat), k + m = dT D → Go sc d mt_245 5 [vr 1835, vi (r : Int), vi (p : Int), vi ((msk k (fun i => Nat.beq (lshore s i) p) : Nat) : Int), vi (k : Int)] [] (z_cfg t, I, J) Q := by
  have hn := hD.2.1
  intro m
  induction m with
  | zero =>
    intro k hk
    have : k = dT D := by omega
    subst this
    refine b245_5 ?_
    rw [hR.2.1]
    exact ⟨⟨by omega, by omega⟩, ⟨by omega, by omega⟩, fun c => by omega, fun _ => h⟩
  | succ m ih =>
    intro k hk
    have g1 := msk_lt k (fun i => Nat.beq (lshore s i) p)
    have g2 : 2 ^ k ≤ 2 ^ 8 := Nat.pow_le_pow_right (by omega) (by omega)
    have e1 : zshl 1 (k : Int) = ((1 * 2 ^ k : Nat) : Int) := zshl_n (x := 1) (by omega) (by omega)
    refine b245_5 ?_
    rw [hR.2.1, show (2 : Int) * (k : Int) = ((2 * k : Nat) : Int) by omega, zdg hs.1 (by omega), hs.2.1 k (by omega), e1, Nat.one_mul, zor_n (by omega) (by omega)]
    refine ⟨⟨by omega, by omega⟩, ⟨by omega, by omega⟩, fun _ => ⟨⟨by omega, by omega⟩, fun c => b245_33 ?_, fun c => b245_33 ?_⟩, fun c => by omega⟩
    · rw [msk_or (f := fun i => Nat.beq (lshore s i) p) (by show Nat.beq (lshore s k) p = true; rw [show lshore s k = p by omega]; exact Nat.beq_refl p)]
      exact ih (k + 1) (by omega)
    · rw [msk_no (f := fun i => Nat.beq (lshore s i) p) (by
        show Nat.beq (lshore s k) p = false
        cases hb : Nat.beq (lshore s k) p
        · rfl
        · exact absurd (congrArg (fun x : Nat => (x : Int)) (Nat.eq_of_beq_eq_true hb)) c)]
      exact ih (k + 1) (by omega)
theorem k245 {x1 x2 : Int} {s r p : Nat} (e1 : x1 = r) (e2 : x2 = p) (hR : RD I D ho lo) (hD : dOk D) (hs : SR s r) (hp : p < 4) (h : Q (.inl (some (vi (lash s p (dT D))))) (z_cfg t, I, J)) : Go sc d mt_245 0 [vr 1835, vi x1, vi x2, vn, vn] [] (z_cfg t, I, J) Q := by
  subst e1 e2
  exact b245_0 (k245loop hR hD hs hp h (dT D) 0 (by omega))
theorem k237 {x1 x2 : Int} {i j : Nat} (e1 : x1 = i) (e2 : x2 = j) (hi : i < 4) (hj : j < 4) (hR : RD I D ho lo) (h : Q (.inl (some (vi ((dFlow D i j).toNat)))) (z_cfg t, I, J)) : Go sc d mt_237 0 [vr 1835, vi x1, vi x2] [] (z_cfg t, I, J) Q := by
  subst e1 e2
  refine b237_0 ?_
  unfold dFlow at h
  rcases hR.2.2.2.2.2.2.2.1 with ⟨a, b⟩ | ⟨a, b⟩
  · rw [a]
    rw [b i j hi hj] at h
    refine ⟨⟨by decide, by decide⟩, fun _ => ⟨⟨by omega, by omega⟩, ⟨by omega, by omega⟩, fun c => ?_, fun c => ?_⟩, fun c => absurd rfl c⟩
    · rw [decide_eq_false (by omega)] at h; exact h
    · rw [decide_eq_true (by omega)] at h; exact h
  · rw [a]
    have e : I 2070 ((4 * (i : Int)) + (j : Int)).toNat = ((dWa D i).testBit j).toNat := by
      rw [show ((4 * (i : Int)) + (j : Int)).toNat = 4 * i + j by omega]
      exact b i j hi hj
    rw [e]
    refine ⟨⟨by decide, by decide⟩, fun c => absurd c (by decide), fun _ => ⟨⟨by omega, by omega⟩, ?_, h⟩⟩
    cases (dWa D i).testBit j
    · exact Or.inl rfl
    · exact Or.inr rfl
/-- a law left out -/
def kp (w : Int) (v : Nat) : Nat := if w = -1 then v else ndiff v (2 ^ w.toNat)
def wOk (D : tD) (w : Int) : Prop := w = -1 ∨ (0 ≤ w ∧ w < dL D)
theorem k246 {x1 w : Int} {v : Nat} (e1 : x1 = v) (hw : I 1835 52 = w) (hwo : wOk D w) (hD : dOk D) (hv : v < 4096) (h : Q (.inl (some (vi (kp w v)))) (z_cfg t, I, J)) : Go sc d mt_246 0 [vr 1835, vi x1] [] (z_cfg t, I, J) Q := by
  subst e1
  have hL := hD.2.2.2.1
  refine b246_0 ?_
  rw [hw]
  unfold kp at h
  unfold wOk at hwo
  refine ⟨⟨by omega, by omega⟩, fun c => ?_, fun c => ?_⟩
  · rw [if_pos c] at h; exact h
  · rw [if_neg c] at h
    have g2 : 2 ^ w.toNat ≤ 2 ^ 12 := Nat.pow_le_pow_right (by omega) (by omega)
    have e1 : zshl 1 ((w.toNat : Nat) : Int) = ((1 * 2 ^ w.toNat : Nat) : Int) := zshl_n (x := 1) (by omega) (by omega)
    rw [show w = ((w.toNat : Nat) : Int) by omega, e1, Nat.one_mul, zandn_n (by omega) (by omega)]
    exact h
theorem k255loop {S : Nat} (hR : RD I D ho lo) (hD : dOk D) (hS : S ≤ dAll D) (h : Q (.inl (some (vi (mx (dT D) (dMi D) S)))) (z_cfg t, I, J)) : ∀ (m k : Nat), k + m = dT D → Go sc d mt_255 4 [vr 1835, vi (S : Int), vi ((mx k (dMi D) S : Nat) : Int), vi (k : Int)] [] (z_cfg t, I, J) Q := by
  have hA := dAll_lt hD
  have hn := hD.2.1
  intro m
  induction m with
  | zero =>
    intro k hk
    have : k = dT D := by omega
    subst this
    refine b255_4 ?_
    rw [hR.2.1]
    exact ⟨⟨by omega, by omega⟩, ⟨by omega, by omega⟩, fun c => by omega, fun _ => h⟩
  | succ m ih =>
    intro k hk
    obtain ⟨-, gm, -⟩ := hD.2.2.2.2.2.1 k (by omega)
    have gx := mx_le (n := k) (B := 99) (w := dMi D) S (fun i hi => (hD.2.2.2.2.2.1 i (by omega)).2.1)
    have key : ∀ x : Int, x = ((max (mx k (dMi D) S) (if S.testBit k then dMi D k else 0) : Nat) : Int) → Go sc d mt_255 38 [vr 1835, vi (S : Int), vi x, vi (k : Int)] [] (z_cfg t, I, J) Q := by
      intro x hx
      subst hx
      exact b255_38 (ih (k + 1) (by omega))
    refine b255_4 ?_
    rw [hR.2.1, zbit (by omega) (by omega), Int.toNat_natCast, (hR.2.2.2.2.2.1 k (by omega)).2.1]
    refine ⟨⟨by omega, by omega⟩, ⟨by omega, by omega⟩, fun _ => ⟨fun c => ⟨⟨by omega, by omega⟩, ⟨by omega, by omega⟩, ⟨by omega, by omega⟩, fun c2 => key _ ?_, fun c2 => key _ ?_⟩, fun c => key _ ?_⟩, fun c => by omega⟩
    · cases hb : S.testBit k
      · rw [hb] at c; cases c
      · rw [if_pos rfl]; omega
    · cases hb : S.testBit k
      · rw [hb] at c; cases c
      · rw [if_pos rfl]; omega
    · cases hb : S.testBit k
      · rw [if_neg (by decide)]; omega
      · rw [hb] at c; exact absurd rfl c
theorem k255 {x1 : Int} {S : Nat} (e1 : x1 = S) (hR : RD I D ho lo) (hD : dOk D) (hS : S ≤ dAll D) (h : Q (.inl (some (vi (mx (dT D) (dMi D) S)))) (z_cfg t, I, J)) : Go sc d mt_255 0 [vr 1835, vi x1, vn, vn] [] (z_cfg t, I, J) Q := by
  subst e1
  exact b255_0 (k255loop hR hD hS h (dT D) 0 (by omega))
/-- behind a crossing -/
theorem k249loop {s r b p S : Nat} {x2 : Int} (hR : RD I D ho lo) (hD : dOk D) (hs : SR s r) (hb : b < 2) (hp : p < 4) (hS : S ≤ dAll D) (h : ∀ r', SR (dAfter D s b p S) r' → Q (.inl (some (vi (r' : Nat)))) (z_cfg t, I, J)) :
    ∀ (m k v : Nat), k + m = dT D → v < 4194304 → (∀ i, i < 8 → dg v i = if i < k ∧ S.testBit i = true then p else lshore s i) → (∀ u, 8 ≤ u → u < 11 → dg v u = if u = 8 + b then p else dg s u) → Go sc d mt_249 26 [vr 1835, vi (r : Int), vi x2, vi (p : Int), vi (S : Int), vi (v : Int), vi (k : Int)] [] (z_cfg t, I, J) Q := by
  have hA := dAll_lt hD
  have hn := hD.2.1
  have hbig : ∀ i, dT D ≤ i → S.testBit i = false := fun i hi => Nat.testBit_lt_two_pow (Nat.lt_of_lt_of_le (lt_all hS) (Nat.pow_le_pow_right (n := 2) (by omega) hi))
  intro m
  induction m with
  | zero =>
    intro k v hk hv h1 h2
    have : k = dT D := by omega
    subst this
    refine b249_26 ?_
    rw [hR.2.1, hR.2.2.2.2.1]
    refine ⟨⟨by omega, by omega⟩, ⟨by omega, by omega⟩, fun c => by omega, fun _ => ⟨lamp_in hD, fun c => ?_, fun c => ?_⟩⟩
    · refine h v ⟨hv, fun i hi => ?_, fun u hu1 hu2 => ?_⟩
      · rw [h1 i hi, af_shore hb hp (by omega) hi]
        by_cases hb2 : S.testBit i = true
        · have : i < dT D := by
            rcases Nat.lt_or_ge i (dT D) with q | q
            · exact q
            · rw [hbig i q] at hb2; cases hb2
          rw [if_pos ⟨this, hb2⟩, if_pos hb2]
        · rw [if_neg (fun z => hb2 z.2), if_neg hb2]
      · rw [h2 u hu1 hu2]
        unfold dAfter
        rw [if_pos c, lmoor_eq, dg_rset hp, dg_placed (by omega) hp hu1]
    · have e : zor (zand (v : Int) (z_i32 4291821567)) (zshl (p : Int) 20) = ((rset v 10 p : Nat) : Int) := by
        rw [← zrset hv (by omega) hp]
        rfl
      rw [e]
      refine h _ ⟨rset_lt hv (by omega) hp, fun i hi => ?_, fun u hu1 hu2 => ?_⟩
      · rw [dg_rset hp, if_neg (by omega), h1 i hi, af_shore hb hp (by omega) hi]
        by_cases hb2 : S.testBit i = true
        · have : i < dT D := by
            rcases Nat.lt_or_ge i (dT D) with q | q
            · exact q
            · rw [hbig i q] at hb2; cases hb2
          rw [if_pos ⟨this, hb2⟩, if_pos hb2]
        · rw [if_neg (fun z => hb2 z.2), if_neg hb2]
      · unfold dAfter
        rw [if_neg c, llit_eq, dg_rset hp, dg_rset hp, lmoor_eq, dg_rset hp, dg_placed (by omega) hp hu1]
        by_cases hu : u = 10
        · rw [if_pos hu, if_pos hu]
        · rw [if_neg hu, if_neg hu, h2 u hu1 hu2]
  | succ m ih =>
    intro k v hk hv h1 h2
    refine b249_26 ?_
    rw [hR.2.1, zbit (by omega) (by omega), show (2 : Int) * (k : Int) = ((2 * k : Nat) : Int) by omega, zrset hv (by omega) hp]
    refine ⟨⟨by omega, by omega⟩, ⟨by omega, by omega⟩, fun _ => ⟨fun c => b249_66 ?_, fun c => b249_66 ?_⟩, fun c => by omega⟩
    · have hbk : S.testBit k = true := by
        cases hb2 : S.testBit k
        · rw [hb2] at c; cases c
        · rfl
      refine ih (k + 1) (rset v k p) (by omega) (rset_lt hv (by omega) hp) (fun i hi => ?_) (fun u hu1 hu2 => ?_)
      · rw [dg_rset hp]
        by_cases hik : i = k
        · subst hik
          rw [if_pos rfl, if_pos ⟨by omega, hbk⟩]
        · rw [if_neg hik, h1 i hi]
          by_cases hq : i < k ∧ S.testBit i = true
          · rw [if_pos hq, if_pos ⟨by omega, hq.2⟩]
          · rw [if_neg hq, if_neg (fun z => hq ⟨by omega, z.2⟩)]
      · rw [dg_rset hp, if_neg (by omega), h2 u hu1 hu2]
    · have hbk : ¬ S.testBit k = true := fun z => by
        rw [z] at c; exact c rfl
      refine ih (k + 1) v (by omega) hv (fun i hi => ?_) h2
      rw [h1 i hi]
      by_cases hq : i < k ∧ S.testBit i = true
      · rw [if_pos hq, if_pos ⟨by omega, hq.2⟩]
      · rw [if_neg hq, if_neg (fun z => hq ⟨by
          rcases Nat.lt_or_ge i k with q | q
          · exact q
          · exact absurd z.2 (by rw [show i = k by omega]; exact hbk), z.2⟩)]
theorem k249 {x1 x2 x3 x4 : Int} {s r b p S : Nat} (e1 : x1 = r) (e2 : x2 = b) (e3 : x3 = p) (e4 : x4 = S) (hR : RD I D ho lo) (hD : dOk D) (hs : SR s r) (hb : b < 2) (hp : p < 4) (hS : S ≤ dAll D) (h : ∀ r', SR (dAfter D s b p S) r' → Q (.inl (some (vi (r' : Nat)))) (z_cfg t, I, J)) : Go sc d mt_249 0 [vr 1835, vi x1, vi x2, vi x3, vi x4, vn, vn] [] (z_cfg t, I, J) Q := by
  subst e1 e2 e3 e4
  refine b249_0 ?_
  rw [show (16 : Int) + 2 * (b : Int) = ((2 * (8 + b) : Nat) : Int) by omega, zrset hs.1 (by omega) hp]
  refine k249loop hR hD hs hb hp hS h (dT D) 0 _ (by omega) (rset_lt hs.1 (by omega) hp) (fun i hi => ?_) (fun u hu1 hu2 => ?_)
  · rw [dg_rset hp, if_neg (by omega), if_neg (by omega), hs.2.1 i hi]
  · rw [dg_rset hp, hs.2.2 u hu1 hu2]
end
