/-! ===== the class: all crossings of one boat from one state ===== -/
theorem nxt_some {P : Nat} : ∀ (f S n : Nat), nxt P S f = some n → S ≤ n ∧ n < S + f ∧ n &&& P = n ∧ ∀ x, S ≤ x → x < n → ¬ x &&& P = x := by
  intro f
  induction f with
  | zero => intro S n h; cases h
  | succ f ih =>
    intro S n h
    unfold nxt at h
    split at h
    · rename_i hS
      cases h
      exact ⟨Nat.le_refl _, by omega, hS, fun x h1 h2 => by omega⟩
    · rename_i hS
      obtain ⟨a, b, c, e⟩ := ih (S + 1) n h
      refine ⟨by omega, by omega, c, fun x h1 h2 => ?_⟩
      by_cases q : x = S
      · rw [q]; exact hS
      · exact e x (by omega) h2
theorem nxt_none {P : Nat} : ∀ (f S : Nat), nxt P S f = none → ∀ x, S ≤ x → x < S + f → ¬ x &&& P = x := by
  intro f
  induction f with
  | zero => intro S _ x h1 h2; omega
  | succ f ih =>
    intro S h x h1 h2
    unfold nxt at h
    split at h
    · cases h
    · rename_i hS
      by_cases q : x = S
      · rw [q]; exact hS
      · exact ih (S + 1) h x (by omega) (by omega)
theorem and_low {a P : Nat} (hP : P < 256) : a &&& P = a % 256 &&& P := by
  apply Nat.eq_of_testBit_eq
  intro i
  rw [Nat.testBit_and, Nat.testBit_and, show a % 256 = a % 2 ^ 8 from rfl, Nat.testBit_mod_two_pow]
  by_cases hi : i < 8
  · simp [hi]
  · have : P.testBit i = false := Nat.testBit_lt_two_pow (Nat.lt_of_lt_of_le hP (Nat.pow_le_pow_right (n := 2) (by omega) (by omega : 8 ≤ i)))
    simp [this]
theorem zsub {c P : Nat} (hc : c ≤ P) (hP : P < 256) : zand ((c : Int) - (P : Int)) (P : Int) = ((nsub c P : Nat) : Int) := by
  have h2 : nsub c P < 2147483648 := Nat.lt_of_le_of_lt Nat.and_le_right (by omega)
  refine zval ?_ h2
  rw [Int32.toBitVec_and, zbv, BitVec.toNat_and, Int32.toBitVec_ofInt, BitVec.toNat_ofInt, BitVec.toNat_ofNat, Nat.mod_eq_of_lt (show P < 2 ^ 32 by omega)]
  unfold nsub
  rw [and_low hP, and_low (a := c + 256 - P) hP]
  congr 1
  omega
/-- sets within P -/
theorem ndiff_sub {S P : Nat} : ndiff S P = 0 ↔ S &&& P = S := by
  constructor
  · intro h
    apply Nat.eq_of_testBit_eq
    intro i
    have := congrArg (fun x => Nat.testBit x i) h
    rw [ndiff_bit, Nat.zero_testBit] at this
    rw [Nat.testBit_and]
    cases h1 : S.testBit i <;> cases h2 : P.testBit i <;> rw [h1, h2] at this <;> first | rfl | cases this
  · intro h
    apply Nat.eq_of_testBit_eq
    intro i
    have := congrArg (fun x => Nat.testBit x i) h
    simp only [Nat.testBit_and] at this
    rw [ndiff_bit, Nat.zero_testBit]
    cases h1 : S.testBit i <;> cases h2 : P.testBit i <;> simp_all
theorem sub_of {S P : Nat} (h : S &&& P = S) : sub S P := fun i hi => by
  have := congrArg (fun x => Nat.testBit x i) h
  simp only [Nat.testBit_and, hi, Bool.true_and] at this
  exact this
theorem rng_cons (a m : Nat) : List.range' a (m + 1) = a :: List.range' (a + 1) m := rfl
theorem exS_app {D : tD} {act ho lo k s b p : Nat} (l m : List Nat) (g : gS) : exS D act ho lo k s b p (l ++ m) g = exS D act ho lo k s b p m (exS D act ho lo k s b p l g) := by
  unfold exS
  rw [List.foldl_append]
/-- what goes on while crossings are added -/
def FA (I I' J J' : Nat → Nat → Int) : Prop := (∀ a, a < 3392 → ¬ a = 884 → ¬ a = 1044 → ¬ a = 1057 → ¬ a = 1108 → ¬ a = 1140 → ¬ a = 1236 → ¬ a = 1204 → I' a = I a) ∧ (∀ k, k < 2 ∨ 5 < k → I' 1057 k = I 1057 k) ∧ ∀ a, a < 3392 → J' a = J a
theorem FA.rf (I J : Nat → Nat → Int) : FA I I J J := ⟨fun _ _ _ _ _ _ _ _ _ => rfl, fun _ _ => rfl, fun _ _ => rfl⟩
theorem FA.tr {I I1 I2 J J1 J2 : Nat → Nat → Int} (h : FA I I1 J J1) (h' : FA I1 I2 J1 J2) : FA I I2 J J2 := ⟨fun a h1 h2 h3 h4 h5 h6 h7 h8 => (h'.1 a h1 h2 h3 h4 h5 h6 h7 h8).trans (h.1 a h1 h2 h3 h4 h5 h6 h7 h8), fun k hk => (h'.2.1 k hk).trans (h.2.1 k hk), fun a ha => (h'.2.2 a ha).trans (h.2.2 a ha)⟩
theorem FA.fe {I I' J J' : Nat → Nat → Int} (h : FE I I' J J') : FA I I' J J' := ⟨fun a h1 _ _ h4 h5 h6 h7 h8 => h.1 a h1 h4 h5 h6 h7 h8, h.2.1, h.2.2⟩
theorem FA.fb {I I' : Nat → Nat → Int} (J : Nat → Nat → Int) (h : FB I I') : FA I I' J J := ⟨fun a _ h2 h3 _ _ _ _ _ => h a h2 h3, fun k _ => by rw [h 1057 (by decide) (by decide)], fun _ _ => rfl⟩
theorem GS.fb {I I' : Nat → Nat → Int} {D : tD} {n : Nat} {X Dp : Nat → Nat} (h : GS I D n X Dp) (hf : FB I I') : GS I' D n X Dp := by
  obtain ⟨h1, ⟨T, w1, w2, w3, w4⟩, h3, h4⟩ := h
  have e := hf 1057 (by decide) (by decide)
  refine ⟨by rw [e]; exact h1, ⟨T, w1, fun k hk => ?_, fun i hi => ?_, w4⟩, fun k hk => ?_, by rw [e]; exact h4⟩
  · rw [hf 1108 (by decide) (by decide)]; exact w2 k hk
  · rw [hf 1236 (by decide) (by decide)]; exact w3 i hi
  · rw [hf 1140 (by decide) (by decide)]; exact h3 k hk
theorem GC.fb {t : zT} {I I' : Nat → Nat → Int} {D : tD} {g : gS} (h : GC t I D g) (he : eOk t) (hf : FB I I') : GC t I' D g := by
  obtain ⟨-, -, -, hte⟩ := he
  have e := hf 1057 (by decide) (by decide)
  rcases h with ⟨h1, h2, h2b, h3⟩ | ⟨h1, h2, h3, h4, h5, h6⟩
  · exact Or.inl ⟨h1, by rw [e]; exact h2, by rw [e]; exact h2b, fun i hi => by rw [hf 1108 (by decide) (by decide)]; exact h3 i hi⟩
  · refine Or.inr ⟨h1, by rw [e]; exact h2, by rw [e]; exact h3, h4.fb hf, fun k hk => ?_, h6⟩
    rw [hf (t_e t) (by omega) (by omega)]
    exact h5 k hk
theorem RU.to {t t' : zT} {I I' J J' : Nat → Nat → Int} {D : tD} (h : RU t I D) (ht : tR t t') (hf : FE I I' J J') : RU t' I' D := by
  obtain ⟨h1, h2, h3, h4⟩ := h
  have r : ∀ a, a < 1040 → I' a = I a := fun a ha => hf.1 a (by omega) (by omega) (by omega) (by omega) (by omega) (by omega)
  refine ⟨?_, fun S hS => ?_, fun S p q l z1 z2 z3 z4 z5 => ?_, h4⟩
  · rw [ht.1.2.1]
    exact h1.fr (r _ (by have := zmd_lt (t_rb t); omega)) (fun k => r _ (by have := zmf_lt (t_rb t) k; omega))
  · rw [r 916 (by decide), r 948 (by decide), r 980 (by decide), r 1012 (by decide)]
    exact h2 S hS
  · rw [r 884 (by decide)]
    exact h3 S p q l z1 z2 z3 z4 z5
/-- all that holds between two crossings -/
def AC (t0 : zT) (I0 J0 : Nat → Nat → Int) (D : tD) (act k s : Nat) (t : zT) (I J : Nat → Nat → Int) (g : gS) : Prop := tR t0 t ∧ FA I0 I J0 J ∧ RU t I D ∧ GC t I D g ∧ gOk D act g ∧ k < gN g ∧ gX g k = s ∧ I0 1057 9 = ((gDp g k + 1 : Nat) : Int)
theorem GC.row {t : zT} {I : Nat → Nat → Int} {D : tD} {g : gS} (h : GC t I D g) {i : Nat} (hi : i < gN g) : I 1108 i = gX g i := by
  rcases h with ⟨-, -, -, h3⟩ | ⟨-, -, -, h4, -⟩
  · exact h3 i hi
  · obtain ⟨T, w⟩ := h4.2.1
    exact (w.2.1 i hi).1
section
variable {sc : mS} {d : Nat} {t : zT} {I J : Nat → Nat → Int} {Q : zR → zW → Prop} {D : tD}
/-- the test that the class makes is the whole one -/
theorem okE_3 {act ho lo s b p S : Nat} (hD : dOk D) (hb : b < dB D) (hp : p < dS D) (hS : S ≤ dAll D) (hun : dShores D s &&& act = 0) (hst : stOk D s) (hfl : dFlow D (lberth s b) p = true) (hgo : dLamp D = -1 ∨ llamp s = lberth s b) (hsub : S &&& lash s (lberth s b) (dT D) = S) :
    okE D act ho lo s b p S = true ↔ (fitB D act S (if b = 0 then ho else dHo D b) (if b = 0 then lo else dLo D b) = true ∧ dBars D (ndiff (lash s (lberth s b) (dT D)) S) (lberth s b) (cntb (dB D) s (lberth s b) - 1) 0 &&& act = 0 ∧ dBars D (lash s p (dT D) ||| S) p (cntb (dB D) s p + 1) (dAlong D) &&& act = 0) := by
  have hfr := hst.2.2 b hb
  have hS4 := hD.1
  have hne : ¬ lberth s b = p := fun e => by
    unfold dFlow at hfl
    rw [e, (hD.2.2.2.2.2.2.2.1 p (by omega)).2] at hfl
    cases hfl
  have e3 := edge3 (act := act) hD hb hp hS hun hne hfr hgo (sub_of hsub)
  unfold okE fitB
  rw [Bool.and_eq_true, Bool.and_eq_true, decide_eq_true_eq, decide_eq_true_eq]
  constructor
  · rintro ⟨h1, -, -, h2, h3⟩
    obtain ⟨a, b, c⟩ := e3.mp ⟨h2, h3⟩
    exact ⟨⟨h1, a⟩, b, c⟩
  · rintro ⟨⟨h1, h2⟩, h3, h4⟩
    obtain ⟨a, b⟩ := e3.mpr ⟨h2, h3, h4⟩
    exact ⟨h1, ⟨hfl, hgo⟩, ndiff_sub.mpr hsub, a, b⟩
theorem okE_ns {act ho lo s b p S : Nat} (h : ¬ S &&& lash s (lberth s b) (dT D) = S) : okE D act ho lo s b p S = false := by
  cases hq : okE D act ho lo s b p S
  · rfl
  · exact absurd (ndiff_sub.mp (okE_s hq).2.2.2.1) h
theorem okE_nf {act ho lo s b p S : Nat} (h : dFlow D (lberth s b) p = false) : okE D act ho lo s b p S = false := by
  cases hq : okE D act ho lo s b p S
  · rfl
  · have := (okE_s hq).2.1
    rw [h] at this
    cases this
end
