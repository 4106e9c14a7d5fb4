/-! ===== a text's clauses, the class ===== -/
def vfd (k : Nat) : Bool := decide (k = 2 ∨ k = 3 ∨ k = 4 ∨ k = 6 ∨ k = 7 ∨ k = 8 ∨ k = 11 ∨ k = 13 ∨ k = 14 ∨ k = 15)
theorem zmf_0 (b : Bool) {k : Nat} (h : 17 ≤ k) : z_mf b k = 0 := by
  cases b
  · show List.getD _ k 0 = 0
    rw [List.getD_eq_getElem?_getD, List.getElem?_eq_none (by exact h)]
    rfl
  · show List.getD _ k 0 = 0
    rw [List.getD_eq_getElem?_getD, List.getElem?_eq_none (by exact h)]
    rfl
theorem zmm (b : Bool) (k : Nat) : ¬ z_md b = z_mf b k := by
  by_cases h : k < 17
  · have A : ∀ k, k < 17 → ¬ z_md b = z_mf b k := by cases b <;> decide
    exact A k h
  · rw [zmf_0 b (by omega)]
    cases b <;> decide
theorem zff (b : Bool) {j k : Nat} (hj : vfd j = true) (h : ¬ k = j) : ¬ z_mf b k = z_mf b j := by
  have hj17 : j < 17 := by
    unfold vfd at hj
    rw [decide_eq_true_iff] at hj
    omega
  by_cases hk : k < 17
  · have A : ∀ j, j < 17 → ∀ k, k < 17 → vfd j = true → ¬ k = j → ¬ z_mf b k = z_mf b j := by cases b <;> decide
    exact A j hj17 k hk hj h
  · rw [zmf_0 b (by omega)]
    have A : ∀ j, j < 17 → vfd j = true → ¬ 0 = z_mf b j := by cases b <;> decide
    exact A j hj17 hj
theorem zrg (b : Bool) {k : Nat} (hk : vfd k = true) : (z_md b ≤ z_mf b k ∧ z_mf b k < z_md b + 352) ∧ ¬ z_mf b k = 805 ∧ ¬ z_mf b k = 85 := by
  have hk17 : k < 17 := by
    unfold vfd at hk
    rw [decide_eq_true_iff] at hk
    omega
  have A : ∀ k, k < 17 → vfd k = true → (z_md b ≤ z_mf b k ∧ z_mf b k < z_md b + 352) ∧ ¬ z_mf b k = 805 ∧ ¬ z_mf b k = 85 := by cases b <;> decide
  exact A k hk17 hk
def xFm (I I' : Nat → Nat → Int) (b : Bool) : Prop := ∀ a, ¬ a = 805 → ¬ (z_md b ≤ a ∧ a < z_md b + 352) → I' a = I a
def SN (b : Bool) (I : Nat → Nat → Int) : Prop := (∀ i, i < 2 → (0 ≤ I (z_mf b 6) i ∧ I (z_mf b 6) i ≤ 999) ∧ (0 ≤ I (z_mf b 7) i ∧ I (z_mf b 7) i ≤ 999)) ∧ I (z_mf b 14) 0 = 0 ∧ (I (z_md b) 10 = 0 ∨ I (z_md b) 10 = 1)
def CA (b : Bool) (I : Nat → Nat → Int) (D : tD) (w : Bool) (cl : Nat) : Prop := CD b I D ∧ I (z_md b) 10 = ((w.toNat : Nat) : Int) ∧ I (z_md b) 16 = (cl : Int) ∧ I (z_mf b 14) (dL D) = (cl : Int)
section
variable {sc : mS} {d : Nat} {t : zT} {I J I' : Nat → Nat → Int} {Q : zR → zW → Prop} {B : Nat → Nat} {n : Nat} {D : tD} {b : Bool} {w : Bool} {cl : Nat}
theorem xFm.rf (I : Nat → Nat → Int) (b : Bool) : xFm I I b := fun _ _ _ => rfl
theorem xFm.tr {I1 I2 : Nat → Nat → Int} (h : xFm I I1 b) (h' : xFm I1 I2 b) : xFm I I2 b := fun a h1 h2 => (h' a h1 h2).trans (h a h1 h2)
theorem xFm.fr (h : xFr I I') : xFm I I' b := fun a h1 _ => h.1 a h1
theorem xFm.md {k : Nat} {v : Int} : xFm I (z_u I (z_md b) k v) b := fun a _ h2 => zu_ne (fun z => h2 (by rw [z]; omega))
theorem xFm.mf {k i : Nat} {v : Int} (hk : vfd k = true) : xFm I (z_u I (z_mf b k) i v) b := fun a _ h2 => zu_ne (fun z => h2 (by rw [z]; exact (zrg b hk).1))
theorem xFm.fe {base : Nat} (h : xFe I I' b base) : xFm I I' b := fun a h1 h2 => h.1 a h1 (fun z => h2 (by rw [z]; exact (zrg b (by decide)).1)) (fun z => h2 (by rw [z]; omega))
theorem CP.md {k : Nat} {v : Int} {s : xT} (h : CP I B n s) : CP (z_u I (z_md b) k v) B n s := h.fr (zu_ne (by have := zmd_or b; omega)) (zu_ne (by have := zmd_or b; omega))
theorem CP.mf {k i : Nat} {v : Int} {s : xT} (hk : vfd k = true) (h : CP I B n s) : CP (z_u I (z_mf b k) i v) B n s := h.fr (zu_ne (fun z => (zrg b hk).2.2 z.symm)) (zu_ne (fun z => (zrg b hk).2.1 z.symm))
theorem xFr.md (f : xFr I I') (b : Bool) : I' (z_md b) = I (z_md b) := f.1 _ (by have := zmd_or b; omega)
theorem xFr.mf (f : xFr I I') (b : Bool) (k : Nat) : I' (z_mf b k) = I (z_mf b k) := f.1 _ (by have := zmf_lt b k; omega)
theorem SN.fr (h : SN b I) (h6 : I' (z_mf b 6) = I (z_mf b 6)) (h7 : I' (z_mf b 7) = I (z_mf b 7)) (h14 : I' (z_mf b 14) 0 = I (z_mf b 14) 0) (h10 : I' (z_md b) 10 = 0 ∨ I' (z_md b) 10 = 1) : SN b I' := by
  unfold SN
  rw [h6, h7, h14]
  exact ⟨h.1, h.2.1, h10⟩
theorem CA.xfr (h : CA b I D w cl) (f : xFr I I') : CA b I' D w cl := by
  refine ⟨h.1.fr (f.md b) (fun k => f.mf b k), ?_, ?_, ?_⟩
  · rw [f.md b]; exact h.2.1
  · rw [f.md b]; exact h.2.2.1
  · rw [f.mf b]; exact h.2.2.2
theorem SN.xfr (h : SN b I) (f : xFr I I') : SN b I' := h.fr (f.mf b 6) (f.mf b 7) (by rw [f.mf b 14]) (by rw [f.md b]; exact h.2.2)
theorem CA.cl7 (h : CA b I D w cl) : cl ≤ 700 := by
  obtain ⟨⟨_, _, _, _, _, _, _, _, _, st, s1, s2, s3⟩, _, _, h4⟩ := h
  have := s1 (dL D) (Nat.le_refl _)
  have := s3 (dL D) (Nat.le_refl _)
  omega
theorem CA.toL (h : CA b I D w cl) (hD : dOk D) : CL I b D := ⟨h.1.2.1, hD.2.1, fun i hi => ⟨(h.1.2.2.2.2.2.1 i hi).2.2, (hD.2.2.2.2.2.1 i hi).2.2⟩⟩
theorem CA.th {wt mi le : Nat} (h : CA b I D w cl) (md : ∀ k, ¬ k = 1 → I' (z_md b) k = I (z_md b) k) (m1 : I' (z_md b) 1 = ((dT D + 1 : Nat) : Int)) (mf : ∀ k, ¬ k = 2 → ¬ k = 3 → ¬ k = 4 → I' (z_mf b k) = I (z_mf b k)) (r2 : ∀ i, I' (z_mf b 2) i = if i = dT D then (wt : Int) else I (z_mf b 2) i) (r3 : ∀ i, I' (z_mf b 3) i = if i = dT D then (mi : Int) else I (z_mf b 3) i) (r4 : ∀ i, I' (z_mf b 4) i = if i = dT D then (le : Int) else I (z_mf b 4) i) : CA b I' (d_T D wt mi le) w cl := by
  obtain ⟨⟨h0, h1, h5, h9, h12, ht, hb, hwa, hsc, st, s1, s2, s3⟩, g1, g2, g3⟩ := h
  refine ⟨⟨(md 0 (by decide)).trans h0, m1, (md 5 (by decide)).trans h5, (md 9 (by decide)).trans h9, (md 12 (by decide)).trans h12, fun i hi => ?_, fun i hi => ?_, fun i hi => ?_, fun k hk => ?_, st, fun k hk => ?_, fun k hk => ⟨(s2 k hk).1, fun i c hc => ?_⟩, s3⟩, (md 10 (by decide)).trans g1, (md 16 (by decide)).trans g2, ?_⟩
  · have hi : i < dT D + 1 := hi
    rw [r2, r3, r4]
    show _ = ((fup (dWt D) (dT D) wt i : Nat) : Int) ∧ _ = ((fup (dMi D) (dT D) mi i : Nat) : Int) ∧ _ = ((fup (dLe D) (dT D) le i : Nat) : Int)
    by_cases c : i = dT D
    · subst c
      rw [if_pos rfl, if_pos rfl, if_pos rfl, fup_y, fup_y, fup_y]
      exact ⟨rfl, rfl, rfl⟩
    · rw [if_neg c, if_neg c, if_neg c, fup_n c, fup_n c, fup_n c]
      exact ht i (by omega)
  · rw [mf 6 (by decide) (by decide) (by decide), mf 7 (by decide) (by decide) (by decide), mf 8 (by decide) (by decide) (by decide)]; exact hb i hi
  · rw [mf 11 (by decide) (by decide) (by decide)]; exact hwa i hi
  · rw [mf 13 (by decide) (by decide) (by decide)]; exact hsc k hk
  · rw [mf 14 (by decide) (by decide) (by decide)]; exact s1 k hk
  · rw [mf 15 (by decide) (by decide) (by decide)]; exact (s2 k hk).2 i c hc
  · rw [mf 14 (by decide) (by decide) (by decide)]; exact g3
theorem CA.bo {ho lo at' : Nat} (h : CA b I D w cl) (md : ∀ k, ¬ k = 5 → I' (z_md b) k = I (z_md b) k) (m5 : I' (z_md b) 5 = ((dB D + 1 : Nat) : Int)) (mf : ∀ k, ¬ k = 6 → ¬ k = 7 → ¬ k = 8 → I' (z_mf b k) = I (z_mf b k)) (r6 : ∀ i, I' (z_mf b 6) i = if i = dB D then (ho : Int) else I (z_mf b 6) i) (r7 : ∀ i, I' (z_mf b 7) i = if i = dB D then (lo : Int) else I (z_mf b 7) i) (r8 : ∀ i, I' (z_mf b 8) i = if i = dB D then (at' : Int) else I (z_mf b 8) i) : CA b I' (d_B D ho lo at') w cl := by
  obtain ⟨⟨h0, h1, h5, h9, h12, ht, hb, hwa, hsc, st, s1, s2, s3⟩, g1, g2, g3⟩ := h
  refine ⟨⟨(md 0 (by decide)).trans h0, (md 1 (by decide)).trans h1, m5, (md 9 (by decide)).trans h9, (md 12 (by decide)).trans h12, fun i hi => ?_, fun i hi => ?_, fun i hi => ?_, fun k hk => ?_, st, fun k hk => ?_, fun k hk => ⟨(s2 k hk).1, fun i c hc => ?_⟩, s3⟩, (md 10 (by decide)).trans g1, (md 16 (by decide)).trans g2, ?_⟩
  · rw [mf 2 (by decide) (by decide) (by decide), mf 3 (by decide) (by decide) (by decide), mf 4 (by decide) (by decide) (by decide)]; exact ht i hi
  · have hi : i < dB D + 1 := hi
    rw [r6, r7, r8]
    show _ = ((fup (dHo D) (dB D) ho i : Nat) : Int) ∧ _ = ((fup (dLo D) (dB D) lo i : Nat) : Int) ∧ _ = ((fup (dAt D) (dB D) at' i : Nat) : Int)
    by_cases c : i = dB D
    · subst c
      rw [if_pos rfl, if_pos rfl, if_pos rfl, fup_y, fup_y, fup_y]
      exact ⟨rfl, rfl, rfl⟩
    · rw [if_neg c, if_neg c, if_neg c, fup_n c, fup_n c, fup_n c]
      exact hb i (by omega)
  · rw [mf 11 (by decide) (by decide) (by decide)]; exact hwa i hi
  · rw [mf 13 (by decide) (by decide) (by decide)]; exact hsc k hk
  · rw [mf 14 (by decide) (by decide) (by decide)]; exact s1 k hk
  · rw [mf 15 (by decide) (by decide) (by decide)]; exact (s2 k hk).2 i c hc
  · rw [mf 14 (by decide) (by decide) (by decide)]; exact g3
theorem CA.wa {f : Nat → Nat} (h : CA b I D w cl) (md : ∀ k, ¬ k = 10 → I' (z_md b) k = I (z_md b) k) (m10 : I' (z_md b) 10 = 1) (mf : ∀ k, ¬ k = 11 → I' (z_mf b k) = I (z_mf b k)) (r11 : ∀ i, i < 4 → I' (z_mf b 11) i = (f i : Int)) : CA b I' (d_W D f) true cl := by
  obtain ⟨⟨h0, h1, h5, h9, h12, ht, hb, hwa, hsc, st, s1, s2, s3⟩, g1, g2, g3⟩ := h
  refine ⟨⟨(md 0 (by decide)).trans h0, (md 1 (by decide)).trans h1, (md 5 (by decide)).trans h5, (md 9 (by decide)).trans h9, (md 12 (by decide)).trans h12, fun i hi => ?_, fun i hi => ?_, fun i hi => r11 i hi, fun k hk => ?_, st, fun k hk => ?_, fun k hk => ⟨(s2 k hk).1, fun i c hc => ?_⟩, s3⟩, m10, (md 16 (by decide)).trans g2, ?_⟩
  · rw [mf 2 (by decide), mf 3 (by decide), mf 4 (by decide)]; exact ht i hi
  · rw [mf 6 (by decide), mf 7 (by decide), mf 8 (by decide)]; exact hb i hi
  · rw [mf 13 (by decide)]; exact hsc k hk
  · rw [mf 14 (by decide)]; exact s1 k hk
  · rw [mf 15 (by decide)]; exact (s2 k hk).2 i c hc
  · rw [mf 14 (by decide)]; exact g3
theorem CA.la {v : Nat} (h : CA b I D w cl) (md : ∀ k, ¬ k = 9 → I' (z_md b) k = I (z_md b) k) (m9 : I' (z_md b) 9 = (v : Int)) (mf : ∀ k, I' (z_mf b k) = I (z_mf b k)) : CA b I' (d_La D v) w cl := by
  obtain ⟨⟨h0, h1, h5, h9, h12, ht, hb, hwa, hsc, st, s1, s2, s3⟩, g1, g2, g3⟩ := h
  refine ⟨⟨(md 0 (by decide)).trans h0, (md 1 (by decide)).trans h1, (md 5 (by decide)).trans h5, m9, (md 12 (by decide)).trans h12, fun i hi => ?_, fun i hi => ?_, fun i hi => ?_, fun k hk => ?_, st, fun k hk => ?_, fun k hk => ⟨(s2 k hk).1, fun i c hc => ?_⟩, s3⟩, (md 10 (by decide)).trans g1, (md 16 (by decide)).trans g2, ?_⟩
  · rw [mf 2, mf 3, mf 4]; exact ht i hi
  · rw [mf 6, mf 7, mf 8]; exact hb i hi
  · rw [mf 11]; exact hwa i hi
  · rw [mf 13]; exact hsc k hk
  · rw [mf 14]; exact s1 k hk
  · rw [mf 15]; exact (s2 k hk).2 i c hc
  · rw [mf 14]; exact g3
theorem CA.lw {s : Int} {C : List Int} (h : CA b I D w cl) (md : ∀ k, ¬ k = 12 → ¬ k = 16 → I' (z_md b) k = I (z_md b) k) (m12 : I' (z_md b) 12 = ((dL D + 1 : Nat) : Int)) (m16 : I' (z_md b) 16 = ((cl + C.length : Nat) : Int)) (mf : ∀ k, ¬ k = 13 → ¬ k = 14 → ¬ k = 15 → I' (z_mf b k) = I (z_mf b k)) (r13 : ∀ i, I' (z_mf b 13) i = if i = dL D then s else I (z_mf b 13) i) (r14 : ∀ i, I' (z_mf b 14) i = if i = dL D + 1 then ((cl + C.length : Nat) : Int) else if i = dL D then (cl : Int) else I (z_mf b 14) i) (r15 : ∀ i, i < cl → I' (z_mf b 15) i = I (z_mf b 15) i) (c15 : ∀ (i : Nat) (c : Int), C[i]? = some c → I' (z_mf b 15) (cl + i) = c) (h7 : cl + C.length ≤ 700) : CA b I' (d_L D s C) w (cl + C.length) := by
  obtain ⟨⟨h0, h1, h5, h9, h12, ht, hb, hwa, hsc, st, s1, s2, s3⟩, g1, g2, g3⟩ := h
  have e1 := s1 (dL D) (Nat.le_refl _)
  have ecl : st (dL D) = cl := by omega
  have mono : ∀ m k, k + m = dL D → st k ≤ cl := by
    intro m
    induction m with
    | zero => intro k hk; rw [show k = dL D by omega]; omega
    | succ m ih =>
      intro k hk
      have a := ih (k + 1) (by omega)
      have e := (s2 k (by omega)).1
      omega
  refine ⟨⟨(md 0 (by decide) (by decide)).trans h0, (md 1 (by decide) (by decide)).trans h1, (md 5 (by decide) (by decide)).trans h5, (md 9 (by decide) (by decide)).trans h9, m12, fun i hi => ?_, fun i hi => ?_, fun i hi => ?_, fun k hk => ?_, fup st (dL D + 1) (cl + C.length), fun k hk => ?_, fun k hk => ⟨?_, fun i c hc => ?_⟩, fun k hk => ?_⟩, (md 10 (by decide) (by decide)).trans g1, m16, ?_⟩
  · rw [mf 2 (by decide) (by decide) (by decide), mf 3 (by decide) (by decide) (by decide), mf 4 (by decide) (by decide) (by decide)]; exact ht i hi
  · rw [mf 6 (by decide) (by decide) (by decide), mf 7 (by decide) (by decide) (by decide), mf 8 (by decide) (by decide) (by decide)]; exact hb i hi
  · rw [mf 11 (by decide) (by decide) (by decide)]; exact hwa i hi
  · have hk : k < dL D + 1 := hk
    rw [r13]
    show _ = fup (dSc D) (dL D) s k
    by_cases c : k = dL D
    · subst c; rw [if_pos rfl, fup_y]
    · rw [if_neg c, fup_n c]; exact hsc k (by omega)
  · have hk : k ≤ dL D + 1 := hk
    rw [r14]
    by_cases c : k = dL D + 1
    · subst c; rw [if_pos rfl, fup_y]
    · rw [if_neg c, fup_n c]
      by_cases c2 : k = dL D
      · subst c2; rw [if_pos rfl, ecl]
      · rw [if_neg c2]; exact s1 k (by omega)
  · have hk : k < dL D + 1 := hk
    show fup st (dL D + 1) (cl + C.length) (k + 1) = fup st (dL D + 1) (cl + C.length) k + (fup (dCo D) (dL D) C k).length
    by_cases c : k = dL D
    · subst c
      rw [fup_y, fup_n (by omega), fup_y, ecl]
    · rw [fup_n (by omega), fup_n (by omega), fup_n c]
      exact (s2 k (by omega)).1
  · have hk : k < dL D + 1 := hk
    have hc : (fup (dCo D) (dL D) C k)[i]? = some c := hc
    rw [fup_n (by omega)]
    by_cases c2 : k = dL D
    · subst c2
      rw [fup_y] at hc
      rw [ecl]
      exact c15 i c hc
    · rw [fup_n c2] at hc
      have hl := (List.getElem?_eq_some_iff.mp hc).1
      have e := (s2 k (by omega)).1
      have m1 := mono (dL D - (k + 1)) (k + 1) (by omega)
      rw [r15 _ (by omega)]
      exact (s2 k (by omega)).2 i c hc
  · have hk : k ≤ dL D + 1 := hk
    by_cases c : k = dL D + 1
    · subst c; rw [fup_y]; exact h7
    · rw [fup_n c]; exact s3 k (by omega)
  · show I' (z_mf b 14) (dL D + 1) = _
    rw [r14, if_pos rfl]
/-- what is asked behind a clause of the class -/
def CQ (t : zT) (J : Nat → Nat → Int) (B : Nat → Nat) (n : Nat) (I : Nat → Nat → Int) (Q : zR → zW → Prop) (s : xT) (D : tD) (w : Bool) : Prop := ∀ (I' : Nat → Nat → Int), xFm I I' (t_eb t) → CP I' B n s → SN (t_eb t) I' → (∀ q, s = .inl q → ∃ cl, cl ≤ q ∧ CA (t_eb t) I' D w cl) → Q (.inl none) (z_cfg t, I', J)
theorem k111 {p : Nat} (hd : 3 ≤ d) (hP : CP I B n (.inl p)) (hL : CL I (t_eb t) D) (hq : ∀ (I' : Nat → Nat → Int) (v : Int), xFr I I' → CP I' B n (nameAt B n D p) → (∀ q, nameAt B n D p = .inl q → v = (B (xS B n p) : Int)) → Q (.inl (some (vi v))) (z_cfg t, I', J)) : Go sc d mt_111 0 [vr 805, vn] [] (z_cfg t, I, J) Q := by
  have hpn := hP.le
  have hi := hP.k
  refine b111_0 (c112 (by omega) (fun d' _ => k112 hP (b111_4 ?_)))
  rw [xIsN_v]
  by_cases c : xK B n p = 1 ∧ xE B n p - xS B n p = 1
  · rw [decide_eq_true c]
    have hlt := xK_lt (by rw [c.1]; decide : ¬ xK B n p = 0)
    have hs := xS_r (B := B) hpn.1
    have hb := hP.1 (xS B n p) (by omega)
    have hl := xK1_l c.1 (Nat.le_refl _) ((xE_r (B := B) hpn.1).2.2 hlt)
    have hv := sgn_v hb.2
    have e5 : I 805 5 = xS B n p := hP.2.2.2.1.2.2.2.1
    rw [e5, Int.toNat_natCast, hb.1]
    refine ⟨⟨by decide, by decide⟩, fun z => absurd z (by decide), fun _ => ⟨⟨by omega, by omega⟩, fun _ => ⟨⟨by omega, by omega⟩, ?_⟩, fun z => by omega⟩⟩
    refine c113 (by omega) (fun d' _ => k113 (c := B (xS B n p)) (by omega) hb.2 hL (b111_41 ?_))
    have en : nameAt B n D p = (match xNm D (B (xS B n p)) (dT D) 0 with | none => .inl (xE B n p) | some _ => .inr (5, xS B n p)) := by
      unfold nameAt
      rw [if_pos c]
      first | done | rfl
    cases hm : xNm D (B (xS B n p)) (dT D) 0 with
    | none =>
      rw [hm] at en
      refine ⟨(⟨by decide, by decide⟩ : inR (-1 : Int)), fun _ => ?_, fun z => absurd rfl z⟩
      exact c98 (by omega) (fun d' _ => k98s (by omega) hP (fun I1 f1 P1 => b111_56 (hq I1 _ f1 (by rw [en]; exact P1) (fun _ _ => by omega))))
    | some i =>
      rw [hm] at en
      have hi8 := xNm_lt _ _ _ hm
      have h8 := hL.2.1
      show (inR ((i : Nat) : Int)) ∧ ((((i : Nat) : Int) = (-1 : Int) → _) ∧ (¬ ((i : Nat) : Int) = (-1 : Int) → _))
      refine ⟨⟨by omega, by omega⟩, fun z => by omega, fun _ => ?_⟩
      exact c106 (by omega) (fun d' _ => k106 (f := 5) rfl (by decide) hP (fun I1 f1 P1 => b111_50 (hq I1 _ f1 (by rw [en]; exact P1) (fun q z => by rw [en] at z; cases z))))
  · rw [decide_eq_false c]
    have en : nameAt B n D p = .inr (1, xS B n p) := by unfold nameAt; rw [if_neg c]
    refine ⟨⟨by decide, by decide⟩, fun _ => b111_19 ?_, fun z => absurd rfl z⟩
    exact c106 (by omega) (fun d' _ => k106 (f := 1) rfl (by decide) hP (fun I1 f1 P1 => b111_24 (hq I1 _ f1 (by rw [en]; exact P1) (fun q z => by rw [en] at z; cases z))))
theorem k110 {p : Nat} (hd : 5 ≤ d) (hP : CP I B n (.inl p)) (hA : CA (t_eb t) I D w cl) (hcl : cl ≤ p) (hS : SN (t_eb t) I) (hD : dOk D) (hq : CQ t J B n I Q (tThing B n D p).1 (tThing B n D p).2 w) : Go sc d mt_110 0 [vr 805, vn, vn, vn, vn] [] (z_cfg t, I, J) Q := by
  have h8 := hD.2.1
  have e1 : I (z_md (t_eb t)) 1 = dT D := hA.1.2.1
  have hpn := hP.le
  refine b110_0 ?_
  rw [e1]
  refine ⟨⟨by omega, by omega⟩, fun c => by omega, fun _ => ⟨fun c => ?_, fun c => ?_⟩⟩
  · have c8 : ¬ dT D = 8 := by omega
    have et : tThing B n D p = (tTh3 B n D p, d_T D (xVs B n (tTh1 B n D p)) (tThM B n D p) (B (xS B n (xE B n p)))) := by unfold tThing; rw [if_neg c8]
    refine c98 (by omega) (fun d' _ => k98s (by omega) hP (fun I1 f1 P1 => b110_28 ?_))
    have P1 : CP I1 B n (.inl (xE B n p)) := P1
    have hE := P1.le
    refine c111 (by omega) (fun d' _ => k111 (by omega) P1 ((hA.xfr f1).toL hD) (fun I2 vl f2 P2 hvl => b110_32 ?_))
    refine c114 (by omega) (fun d' _ => k114 (k := 7) rfl (by decide) (by omega) P2 (fun I3 f3 P3 => b110_39 ?_))
    have P3 : CP I3 B n (tTh1 B n D p) := P3
    refine c105 (by omega) (fun d' _ => k105 (lo := 0) (hi := 99) rfl rfl (by omega) (by omega) (by omega) P3 (fun I4 vw f4 P4 hw hw0 => b110_46 ?_))
    have P4 : CP I4 B n (tTh2 B n D p) := P4
    have fin : ∀ (I5 : Nat → Nat → Int) (vm : Nat), xFr I4 I5 → CP I5 B n (tTh3 B n D p) → (∀ q, tTh3 B n D p = .inl q → vm = tThM B n D p ∧ ∃ q2, tTh2 B n D p = .inl q2) → Go sc d mt_110 67 [vr 805, vi (dT D : Int), vi vl, vi (vw : Int), vn] [vi (vm : Int)] (z_cfg t, I5, J) Q := fun I5 vm f5 P5 hm => by
      have f15 : xFr I I5 := (((f1.tr f2).tr f3).tr f4).tr f5
      have A5 := hA.xfr f15
      have S5 := hS.xfr f15
      refine b110_67 ?_
      rw [Int.toNat_natCast]
      refine ⟨⟨by omega, by omega⟩, hq _ ?_ ?_ ?_ ?_⟩
      · exact (xFm.fr f15).tr (((((xFm.mf (by decide)).tr (xFm.mf (by decide))).tr (xFm.mf (by decide))).tr xFm.md))
      · rw [et]
        exact (((P5.mf (by decide)).mf (by decide)).mf (by decide)).md
      · refine S5.fr ?_ ?_ ?_ (by rw [zu_nk (by decide), zu_ne (zmm _ _), zu_ne (zmm _ _), zu_ne (zmm _ _)]; exact S5.2.2)
        · rw [zu_ne (fun z => zmm _ _ z.symm), zu_ne (zff _ (by decide) (by decide)), zu_ne (zff _ (by decide) (by decide)), zu_ne (zff _ (by decide) (by decide))]
        · rw [zu_ne (fun z => zmm _ _ z.symm), zu_ne (zff _ (by decide) (by decide)), zu_ne (zff _ (by decide) (by decide)), zu_ne (zff _ (by decide) (by decide))]
        · rw [zu_ne (fun z => zmm _ _ z.symm), zu_ne (zff _ (by decide) (by decide)), zu_ne (zff _ (by decide) (by decide)), zu_ne (zff _ (by decide) (by decide))]
      · intro q hq2
        rw [et] at hq2 ⊢
        have hq2 : tTh3 B n D p = .inl q := hq2
        obtain ⟨m1, q2, m2⟩ := hm q hq2
        have w1 := (hw ⟨q2, m2⟩).1
        obtain ⟨q1, m3⟩ := xNum_g (s := tTh1 B n D p) m2
        obtain ⟨q0, m4, -⟩ := xNW_i (s := nameAt B n D (xE B n p)) m3
        have l1 := hvl q0 m4
        subst m1 l1 w1
        have hle : aft1 n p (tTh3 B n D p) := by
          have a0 : aft1 n p (nameAt B n D (xE B n p)) := by
            rw [m4]
            have hh := nameAt_i m4
            unfold nameAt at m4
            rw [if_pos hh.1, hh.2] at m4
            cases m4
            have a := xS_r (B := B) hE.1
            have b := xE_r (B := B) hE.1
            have a2 := xS_r (B := B) hpn.1
            have b2 := xE_r (B := B) hpn.1
            exact ⟨by omega, b.2.1⟩
          have a2 : aft1 n p (tTh2 B n D p) := (a0.nw).num
          unfold tTh3
          split
          · exact a2.adv.num
          · exact a2
        rw [hq2] at hle
        refine ⟨cl, Nat.le_trans hcl hle.1, A5.th (fun k hk => ?_) ?_ (fun k k2 k3 k4 => ?_) (fun i => ?_) (fun i => ?_) (fun i => ?_)⟩
        · rw [zu_nk hk, zu_ne (zmm _ _), zu_ne (zmm _ _), zu_ne (zmm _ _)]
        · rw [zu_same]; show (dT D : Int) + 1 = ((dT D + 1 : Nat) : Int); omega
        · rw [zu_ne (fun z => zmm _ _ z.symm), zu_ne (zff _ (by decide) k3), zu_ne (zff _ (by decide) k2), zu_ne (zff _ (by decide) k4)]
        · rw [zu_ne (fun z => zmm _ _ z.symm), zu_ne (zff _ (by decide) (by decide)), zu_at, zu_ne (zff _ (by decide) (by decide))]
        · rw [zu_ne (fun z => zmm _ _ z.symm), zu_at, zu_ne (zff _ (by decide) (by decide)), zu_ne (zff _ (by decide) (by decide))]
        · rw [zu_ne (fun z => zmm _ _ z.symm), zu_ne (zff _ (by decide) (by decide)), zu_ne (zff _ (by decide) (by decide)), zu_at]
    refine c103 (by omega) (fun d' _ => k103 (k := 8) rfl (by decide) (by omega) P4 (fun I5 f5 P5 => b110_53 ?_))
    unfold xTW at P5
    cases hb : xIsW B n 8 (tTh2 B n D p) with
    | false =>
      rw [hb, if_neg (by decide)] at P5
      have e3 : tTh3 B n D p = tTh2 B n D p := by unfold tTh3; rw [if_neg (by rw [hb]; decide)]
      have em : tThM B n D p = 0 := by unfold tThM; rw [if_neg (by rw [hb]; decide)]
      refine ⟨⟨by decide, by decide⟩, fun _ => ?_, fun z => absurd rfl z⟩
      exact fin I5 0 f5 (by rw [e3]; exact P5) (fun q z => ⟨em.symm, q, e3 ▸ z⟩)
    | true =>
      rw [hb, if_pos rfl] at P5
      have e3 : tTh3 B n D p = xNum B n 1 99 (xAdv B n (tTh2 B n D p)) := by unfold tTh3; rw [if_pos hb]
      have em : tThM B n D p = xVs B n (xAdv B n (tTh2 B n D p)) := by unfold tThM; rw [if_pos hb]
      refine ⟨⟨by decide, by decide⟩, fun z => absurd z (by decide), fun _ => ?_⟩
      refine c105 (by omega) (fun d' _ => k105 (lo := 1) (hi := 99) rfl rfl (by omega) (by omega) (by omega) P5 (fun I6 vm f6 P6 hm hm0 => b110_63 ?_))
      rw [← e3] at P6 hm
      exact fin I6 vm (f5.tr f6) P6 (fun q z => ⟨by rw [em]; exact (hm ⟨q, z⟩).1, xIsW_l hb⟩)
  · have c8 : dT D = 8 := by omega
    have et : tThing B n D p = (.inr (2, xS B n p), D) := by unfold tThing; rw [if_pos c8]
    rw [et] at hq
    exact b110_18 (c106 (by omega) (fun d' _ => k106 (f := 2) rfl (by decide) hP (fun I1 f1 P1 => b110_23 (hq I1 (xFm.fr f1) P1 (hS.xfr f1) (fun q z => by cases z)))))
end
