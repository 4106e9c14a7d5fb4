/-! ===== crossings made by hand ===== -/
def jL (D : tD) (s b p S : Nat) : Int := if ¬ dShores D (dStart D) = 0 then 7 else if ¬ dWaters D s b S = 0 then 7 else if ¬ dShores D (dAfter D s b p S) = 0 then 8 else 0
def jW (D : tD) (s b p S : Nat) : Int := if ¬ dShores D (dStart D) = 0 then ((tz (dShores D (dStart D)) : Nat) : Int) else if ¬ dWaters D s b S = 0 then ((tz (dWaters D s b S) : Nat) : Int) else if ¬ dShores D (dAfter D s b p S) = 0 then ((tz (dShores D (dAfter D s b p S)) : Nat) : Int) else -1
def crA (D : tD) (mk s : Nat) (x1 x2 x3 : Int) : Int := if mk = 60 then 9 else if ¬ jB D s x1 x2 x3 = 0 then jB D s x1 x2 x3 else jL D s x1.toNat x2.toNat x3.toNat
def crW (D : tD) (mk s : Nat) (x1 x2 x3 : Int) : Int := if mk = 60 then -1 else if ¬ jB D s x1 x2 x3 = 0 then -1 else jW D s x1.toNat x2.toNat x3.toNat
/-- the play: how many were made, states, minutes, the law told -/
def PC (I : Nat → Nat → Int) (mk : Nat) (ps pm : Nat → Nat) (lw : Int) : Prop := I 1732 0 = mk ∧ I 1732 1 = lw ∧ ∀ i, i ≤ mk → I 1780 i = ps i ∧ I 1812 i = pm i
def PR (I : Nat → Nat → Int) (mk : Nat) (ps pm : Nat → Nat) (lw : Int) : Prop := I 1835 84 = mk ∧ I 1835 85 = lw ∧ ∀ i, i ≤ mk → (∃ r : Nat, I 3316 i = r ∧ SR (ps i) r) ∧ I 3348 i = pm i
def PO (D : tD) (mk : Nat) (ps pm : Nat → Nat) : Prop := mk ≤ 60 ∧ ps 0 = dStart D ∧ pm 0 = 0 ∧ ∀ i, i ≤ mk → stOk D (ps i) ∧ pm i ≤ 99 * i ∧ (gSp (G0 D) = false → ∃ k, k < gN (G0 D) ∧ gX (G0 D) k = ps i)
def nMk (D : tD) (mk s : Nat) (x1 x2 x3 : Int) : Nat := if crA D mk s x1 x2 x3 = 0 then mk + 1 else mk
def nPs (D : tD) (mk : Nat) (ps : Nat → Nat) (x1 x2 x3 : Int) : Nat → Nat := if crA D mk (ps mk) x1 x2 x3 = 0 then upN ps (mk + 1) (dAfter D (ps mk) x1.toNat x2.toNat x3.toNat) else ps
def nPm (D : tD) (mk s : Nat) (pm : Nat → Nat) (x1 x2 x3 : Int) : Nat → Nat := if crA D mk s x1 x2 x3 = 0 then upN pm (mk + 1) (pm mk + mx (dT D) (dMi D) x3.toNat) else pm
theorem dShores_l {D : tD} (s : Nat) (hD : dOk D) : dShores D s < 4096 := by
  have h1 : dShores D s < 2 ^ dL D := orN_lt (fun i _ => dBars_l _ _ _ _)
  have h2 : 2 ^ dL D ≤ 2 ^ 12 := Nat.pow_le_pow_right (by omega) hD.2.2.2.1
  omega
theorem dWaters_l {D : tD} (s b S : Nat) (hD : dOk D) : dWaters D s b S < 4096 := by
  have h1 : dWaters D s b S < 2 ^ dL D := Nat.or_lt_two_pow (dBars_l _ _ _ _) (orN_lt (fun i _ => dBars_l _ _ _ _))
  have h2 : 2 ^ dL D ≤ 2 ^ 12 := Nat.pow_le_pow_right (by omega) hD.2.2.2.1
  omega
theorem jB_in {D : tD} {s : Nat} {x1 x2 x3 : Int} : 0 ≤ jB D s x1 x2 x3 ∧ jB D s x1 x2 x3 ≤ 6 := by
  unfold jB
  repeat' split
  all_goals omega
theorem jB_0 {D : tD} {s : Nat} {x1 x2 x3 : Int} (hD : dOk D) (h3 : inR x3) (h : jB D s x1 x2 x3 = 0) : ∃ b p S : Nat, x1 = b ∧ x2 = p ∧ x3 = S ∧ b < dB D ∧ p < dS D ∧ dFlow D (lberth s b) p = true ∧ S &&& lash s (lberth s b) (dT D) = S ∧ S ≤ dAll D ∧ ¬ sm (dT D) (dRo D) S = 0 ∧ sm (dT D) (fun _ => 1) S ≤ dHo D b ∧ sm (dT D) (dWt D) S ≤ dLo D b ∧ (dLamp D = -1 ∨ llamp s = lberth s b) := by
  unfold jB at h
  by_cases c1 : (0 ≤ x1 ∧ x1 < dB D) ∧ (0 ≤ x2 ∧ x2 < dS D) ∧ dFlow D (lberth s x1.toNat) x2.toNat = true
  · rw [if_pos c1] at h
    by_cases c2 : zand x3 (zxor ((lash s (lberth s x1.toNat) (dT D) : Nat) : Int) (-1)) = 0
    · rw [if_pos c2] at h
      have hll := lash_lt s (lberth s x1.toNat) (dT D)
      have h8 : 2 ^ dT D ≤ 2 ^ 8 := Nat.pow_le_pow_right (by decide) hD.2.1
      obtain ⟨S, hxS, hSub⟩ := zsub_of h3 (by omega) c2
      subst hxS
      rw [Int.toNat_natCast] at h
      split at h
      · exact absurd h (by decide)
      · split at h
        · exact absurd h (by decide)
        · split at h
          · exact absurd h (by decide)
          · split at h
            · exact ⟨x1.toNat, x2.toNat, S, by omega, by omega, rfl, by omega, by omega, c1.2.2, hSub, lash_all hD hSub, by assumption, by omega, by omega, by assumption⟩
            · exact absurd h (by decide)
    · rw [if_neg c2] at h
      exact absurd h (by decide)
  · rw [if_neg c1] at h
    exact absurd h (by decide)
/-- a crossing that is made is one of the graph -/
theorem cr_ok {D : tD} {s b p S : Nat} (hb : b < dB D) (hf : dFlow D (lberth s b) p = true) (hsub : S &&& lash s (lberth s b) (dT D) = S) (hr : ¬ sm (dT D) (dRo D) S = 0) (hm : sm (dT D) (fun _ => 1) S ≤ dHo D b) (hw : sm (dT D) (dWt D) S ≤ dLo D b) (hl : dLamp D = -1 ∨ llamp s = lberth s b) (h : jL D s b p S = 0) : dShores D (dStart D) &&& acts D (-1) = 0 ∧ okE D (acts D (-1)) (dHo D 0) (dLo D 0) s b p S = true := by
  have z : dShores D (dStart D) = 0 ∧ dWaters D s b S = 0 ∧ dShores D (dAfter D s b p S) = 0 := by
    unfold jL at h
    by_cases c1 : dShores D (dStart D) = 0
    · rw [if_neg (fun q => q c1)] at h
      by_cases c2 : dWaters D s b S = 0
      · rw [if_neg (fun q => q c2)] at h
        by_cases c3 : dShores D (dAfter D s b p S) = 0
        · exact ⟨c1, c2, c3⟩
        · rw [if_pos c3] at h; exact absurd h (by decide)
      · rw [if_pos c2] at h; exact absurd h (by decide)
    · rw [if_pos c1] at h; exact absurd h (by decide)
  obtain ⟨z1, z2, z3⟩ := z
  refine ⟨by rw [z1, Nat.zero_and], ?_⟩
  unfold okE
  have eh : (if b = 0 then dHo D 0 else dHo D b) = dHo D b := by
    split
    · rename_i q; rw [q]
    · rfl
  have el : (if b = 0 then dLo D 0 else dLo D b) = dLo D b := by
    split
    · rename_i q; rw [q]
    · rfl
  rw [eh, el, z2, z3, Nat.zero_and]
  have hfit : dFits D S (dHo D b) (dLo D b) = true := by
    unfold dFits
    rw [decide_eq_true (by omega : 0 < sm (dT D) (dRo D) S), decide_eq_true hm, decide_eq_true hw]
    rfl
  rw [hfit, Bool.true_and]
  exact decide_eq_true ⟨⟨hf, hl⟩, ndiff_sub.mpr hsub, rfl, rfl⟩
section
variable {D : tD}
theorem PO.next {mk : Nat} {ps pm : Nat → Nat} {x1 x2 x3 : Int} (hD : dOk D) (h3 : inR x3) (hO : gOk D (acts D (-1)) (G0 D)) (h : PO D mk ps pm) : PO D (nMk D mk (ps mk) x1 x2 x3) (nPs D mk ps x1 x2 x3) (nPm D mk (ps mk) pm x1 x2 x3) := by
  unfold nMk nPs nPm
  by_cases c : crA D mk (ps mk) x1 x2 x3 = 0
  · rw [if_pos c, if_pos c, if_pos c]
    have hmk : ¬ mk = 60 := fun z => by
      unfold crA at c
      rw [if_pos z] at c
      exact absurd c (by decide)
    have cj : jB D (ps mk) x1 x2 x3 = 0 := by
      unfold crA at c
      rw [if_neg hmk] at c
      by_cases q : jB D (ps mk) x1 x2 x3 = 0
      · exact q
      · rw [if_pos q] at c; exact absurd c q
    have cl : jL D (ps mk) x1.toNat x2.toNat x3.toNat = 0 := by
      unfold crA at c
      rw [if_neg hmk, if_neg (fun q => q cj)] at c
      exact c
    obtain ⟨b, p, S, e1, e2, e3, hb, hp, hf, hsub, hSA, hr, hm, hw, hl⟩ := jB_0 hD h3 cj
    subst e1 e2 e3
    rw [Int.toNat_natCast, Int.toNat_natCast, Int.toNat_natCast] at cl
    rw [Int.toNat_natCast, Int.toNat_natCast, Int.toNat_natCast]
    obtain ⟨k1, k2⟩ := cr_ok hb hf hsub hr hm hw hl cl
    obtain ⟨o1, o2, o3, o4⟩ := h
    obtain ⟨s1, s2, s3⟩ := o4 mk (Nat.le_refl _)
    have hmx := (dsm hD S).2.2.2
    refine ⟨by omega, by rw [upN_ne (by omega)]; exact o2, by rw [upN_ne (by omega)]; exact o3, fun i hi => ?_⟩
    by_cases q : i = mk + 1
    · subst q
      rw [upN_at, upN_at]
      refine ⟨stOk_af hD s1 hb hp hSA, by omega, fun hs => ?_⟩
      obtain ⟨k, hk, hkx⟩ := s3 hs
      have hS1 : 1 ≤ S := by
        rcases Nat.eq_zero_or_pos S with z | z
        · exfalso
          apply hr
          rw [z]
          have : ∀ n, sm n (dRo D) 0 = 0 := by
            intro n
            induction n with
            | zero => rfl
            | succ n ih =>
              show sm n (dRo D) 0 + (if Nat.testBit 0 n = true then dRo D n else 0) = 0
              rw [ih, Nat.zero_testBit, if_neg (by decide)]
          exact this _
        · exact z
      have hE := (gAll_E (D := D) (act := acts D (-1)) (ho := dHo D 0) (lo := dLo D 0) hs hO k hk)
      rw [← hkx] at k2
      obtain ⟨e, he, a1, a2, a3⟩ := hE.2 k1 b p S hb hp hS1 hSA k2
      have hto := hE.1 e he
      refine ⟨_, hto.1, ?_⟩
      have h2 := hto.2
      rw [a1, a2, a3] at h2
      rw [← hkx]
      exact h2
    · rw [upN_ne q, upN_ne q]
      exact o4 i (by omega)
  · rw [if_neg c, if_neg c, if_neg c]
    exact h
end
section
variable {sc : mS} {d : Nat} {t : zT} {I J : Nat → Nat → Int} {Q : zR → zW → Prop} {D : tD} {ho lo : Nat}
theorem k92 {x0 : Int} {n : Nat} (e0 : x0 = n) (hn : n < 4096) (hn0 : ¬ n = 0) (h : Q (.inl (some (vi ((tz n : Nat) : Int)))) (z_cfg t, I, J)) : Go sc d mt_92 0 [vi x0, vn] [] (z_cfg t, I, J) Q := by
  have g62 : ∀ y0 y1 : Int, inR y0 → Q (.inl (some (vi (z62 y0 y1)))) (z_cfg t, I, J) → Go sc d mt_92 62 [vi y0, vi y1] [] (z_cfg t, I, J) Q := by
    intro y0 y1 hr hq
    unfold z62 at hq
    refine b92_62 ⟨hr, fun c => ?_, fun c => ?_⟩
    · rw [if_pos c] at hq; exact hq
    · rw [if_neg c] at hq; exact hq
  have g49 : ∀ y0 y1 : Int, inR y0 → Q (.inl (some (vi (z49 y0 y1)))) (z_cfg t, I, J) → Go sc d mt_92 49 [vi y0, vi y1] [] (z_cfg t, I, J) Q := by
    intro y0 y1 hr hq
    unfold z49 at hq
    refine b92_49 ⟨hr, fun c => ?_, fun c => ?_⟩
    · rw [if_pos c] at hq; exact g62 _ _ (zin _) hq
    · rw [if_neg c] at hq; exact g62 _ _ hr hq
  have g34 : ∀ y0 y1 : Int, inR y0 → Q (.inl (some (vi (z34 y0 y1)))) (z_cfg t, I, J) → Go sc d mt_92 34 [vi y0, vi y1] [] (z_cfg t, I, J) Q := by
    intro y0 y1 hr hq
    unfold z34 at hq
    refine b92_34 ⟨hr, fun c => ?_, fun c => ?_⟩
    · rw [if_pos c] at hq; exact g49 _ _ (zin _) hq
    · rw [if_neg c] at hq; exact g49 _ _ hr hq
  rw [← z92_tz hn hn0, ← e0] at h
  unfold z92 at h
  refine b92_0 ⟨fun c => ⟨fun c2 => ?_, fun c2 => ?_⟩, fun c => ?_⟩
  · rw [if_pos c, if_pos c2] at h; exact g34 _ _ (zin _) h
  · rw [if_pos c, if_neg c2] at h; exact g34 _ _ (zin _) h
  · rw [if_neg c] at h; exact h
theorem PC.fb {mk : Nat} {ps pm : Nat → Nat} {lw : Int} {I' : Nat → Nat → Int} (h : PC I mk ps pm lw) (f : FB I I') : PC I' mk ps pm lw := by
  unfold PC
  rw [f 1732 (by decide) (by decide), f 1780 (by decide) (by decide), f 1812 (by decide) (by decide)]
  exact h
theorem k90 {x1 x2 x3 : Int} {b p S mk s : Nat} (e1 : x1 = b) (e2 : x2 = p) (e3 : x3 = S) (hd : 4 ≤ d) (hU : RU t I D) (hpb : t_pb t = t_rb t) (h0 : I 1732 0 = mk) (hm : mk ≤ 60) (hs : I 1780 mk = s) (hst : s < 4194304) (hb : b < dB D) (hp : p < dS D) (hS : S ≤ dAll D)
    (h : ∀ (I' I1 : Nat → Nat → Int), FB I I1 → (jL D s b p S = 0 → I' = I1) → (¬ jL D s b p S = 0 → I' = z_u I1 1732 1 (jW D s b p S)) → RU t I1 D → Q (.inl (some (vi (jL D s b p S)))) (z_cfg t, I', J)) : Go sc d mt_90 0 [vr 1732, vi x1, vi x2, vi x3, vn] [] (z_cfg t, I, J) Q := by
  subst e1 e2 e3
  have hD := hU.2.2.2
  have hB := hD.2.2.1
  have hS4 := hD.1
  have hA := dAll_lt hD
  have cd : ∀ I1, RU t I1 D → CD (t_pb t) I1 D := fun I1 u => by rw [hpb]; exact u.1
  have st89 : ∀ {d' : Nat} {I1 : Nat → Nat → Int} {K : zR → zW → Prop}, FB I I1 → K (.inl (some (vi (s : Int)))) (z_cfg t, I1, J) → Go sc d' mt_89 0 [vr 1732] [] (z_cfg t, I1, J) K := fun {d'} {I1} {K} f hk => k89 (by rw [f 1732 (by decide) (by decide)]; exact h0) hm (by rw [f 1780 (by decide) (by decide)]; exact hs) hk
  have hL1 := dShores_l (dStart D) hD
  have hL2 := dWaters_l s b S hD
  have hL3 := dShores_l (dAfter D s b p S) hD
  have hsl := (start_ok hD).1
  unfold jL jW at h
  refine b90_0 (c16 (by omega) (fun d' _ => k16 (by omega) (cd I hU) hD (b90_11 ?_)))
  refine c42 (by omega) (fun d' _ => k42 rfl (by omega) hU hsl (fun I1 f1 hU1 => b90_14 ?_))
  by_cases c1 : dShores D (dStart D) = 0
  · rw [if_neg (c := ¬ dShores D (dStart D) = 0) (fun z => z c1), if_neg (c := ¬ dShores D (dStart D) = 0) (fun z => z c1)] at h
    rw [c1]
    refine ⟨⟨by decide, by decide⟩, fun _ => ?_, fun z => absurd rfl z⟩
    refine c89 (by omega) (fun d' _ => st89 f1 (b90_29 ?_))
    refine c91 (by omega) (fun d' _ => k91 rfl rfl rfl (by omega) hU1 hst hb hS (fun I2 f2 hU2 => b90_34 (b90_36 ?_)))
    have F2 := f1.tr f2
    by_cases c2 : dWaters D s b S = 0
    · rw [if_neg (c := ¬ dWaters D s b S = 0) (fun z => z c2), if_neg (c := ¬ dWaters D s b S = 0) (fun z => z c2)] at h
      rw [c2]
      refine ⟨⟨by decide, by decide⟩, fun _ => ?_, fun z => absurd rfl z⟩
      refine c89 (by omega) (fun d' _ => st89 F2 (b90_65 ?_))
      refine c52 (by omega) (fun d' _ => k52 rfl rfl rfl rfl (by omega) (cd I2 hU2) hD hst (by omega) (by omega) (by omega) (b90_71 ?_))
      refine c42 (by omega) (fun d' _ => k42 rfl (by omega) hU2 (dAfter_lt hst (by omega) (by omega) (by omega)) (fun I3 f3 hU3 => b90_74 ?_))
      have F3 := F2.tr f3
      by_cases c3 : dShores D (dAfter D s b p S) = 0
      · rw [if_neg (c := ¬ dShores D (dAfter D s b p S) = 0) (fun z => z c3), if_neg (c := ¬ dShores D (dAfter D s b p S) = 0) (fun z => z c3)] at h
        rw [c3]
        exact ⟨⟨by decide, by decide⟩, fun _ => h I3 I3 F3 (fun _ => rfl) (fun z => absurd rfl z) hU3, fun z => absurd rfl z⟩
      · rw [if_pos c3, if_pos c3] at h
        refine ⟨⟨by omega, by omega⟩, fun z => by omega, fun _ => ?_⟩
        refine c92 (by omega) (fun d' _ => k92 rfl hL3 c3 (b90_87 ?_))
        exact h _ I3 F3 (fun z => absurd z (by decide)) (fun _ => rfl) hU3
    · rw [if_pos c2, if_pos c2] at h
      refine ⟨⟨by omega, by omega⟩, fun z => by omega, fun _ => ?_⟩
      refine c92 (by omega) (fun d' _ => k92 rfl hL2 c2 (b90_47 ?_))
      exact h _ I2 F2 (fun z => absurd z (by decide)) (fun _ => rfl) hU2
  · rw [if_pos c1, if_pos c1] at h
    refine ⟨⟨by omega, by omega⟩, fun z => by omega, fun _ => b90_36 ⟨⟨by omega, by omega⟩, fun z => by omega, fun _ => ?_⟩⟩
    refine c92 (by omega) (fun d' _ => k92 rfl hL1 c1 (b90_47 ?_))
    exact h _ I1 f1 (fun z => absurd z (by decide)) (fun _ => rfl) hU1
/-- what a crossing by hand leaves alone -/
def FP (I I' : Nat → Nat → Int) : Prop := ∀ a, ¬ a = 884 → ¬ a = 1044 → ¬ a = 1732 → ¬ a = 1780 → ¬ a = 1812 → I' a = I a
theorem RU.fp {I' : Nat → Nat → Int} (h : RU t I D) (f : ∀ a, ¬ a = 1732 → ¬ a = 1780 → ¬ a = 1812 → I' a = I a) : RU t I' D := h.up rfl (fun a ha => f a (by omega) (by omega) (by omega))
theorem k87 {x1 x2 x3 : Int} {mk : Nat} {ps pm : Nat → Nat} {lw : Int} (h1 : inR x1) (h2 : inR x2) (h3 : inR x3) (hd : 5 ≤ d) (hU : RU t I D) (hpb : t_pb t = t_rb t) (hP : PC I mk ps pm lw) (hO : PO D mk ps pm)
    (h : ∀ (I' : Nat → Nat → Int), FP I I' → RU t I' D → PC I' (nMk D mk (ps mk) x1 x2 x3) (nPs D mk ps x1 x2 x3) (nPm D mk (ps mk) pm x1 x2 x3) (crW D mk (ps mk) x1 x2 x3) → Q (.inl (some (vi (crA D mk (ps mk) x1 x2 x3)))) (z_cfg t, I', J)) :
    Go sc d mt_87 0 [vr 1732, vi x1, vi x2, vi x3, vn] [] (z_cfg t, I, J) Q := by
  have hD := hU.2.2.2
  obtain ⟨p0, p1, p2⟩ := hP
  have hmk := hO.1
  obtain ⟨s1, s2, -⟩ := hO.2.2.2 mk (Nat.le_refl _)
  have fz : ∀ a, ¬ a = 1732 → z_u I 1732 1 (-1) a = I a := fun a ha => zu_ne ha
  have U1 : RU t (z_u I 1732 1 (-1)) D := hU.fp (fun a a1 _ _ => fz a a1)
  have z0 : z_u I 1732 1 (-1) 1732 0 = mk := by rw [zu_nk (by decide : ¬ 0 = 1)]; exact p0
  have same : ∀ (I' : Nat → Nat → Int) (lw' : Int), ¬ crA D mk (ps mk) x1 x2 x3 = 0 → I' 1732 0 = mk → I' 1732 1 = lw' → I' 1780 = I 1780 → I' 1812 = I 1812 → crW D mk (ps mk) x1 x2 x3 = lw' → PC I' (nMk D mk (ps mk) x1 x2 x3) (nPs D mk ps x1 x2 x3) (nPm D mk (ps mk) pm x1 x2 x3) (crW D mk (ps mk) x1 x2 x3) := by
    intro I' lw' hc g0 g1 g2 g3 g4
    unfold nMk nPs nPm
    rw [if_neg hc, if_neg hc, if_neg hc, g4]
    exact ⟨g0, g1, fun i hi => by rw [g2, g3]; exact p2 i hi⟩
  refine b87_0 ?_
  rw [p0]
  refine ⟨⟨by omega, by omega⟩, fun c => by omega, fun _ => ⟨fun c => ?_, fun c => ?_⟩⟩
  · have hm60 : ¬ mk = 60 := by omega
    have ecA : crA D mk (ps mk) x1 x2 x3 = if ¬ jB D (ps mk) x1 x2 x3 = 0 then jB D (ps mk) x1 x2 x3 else jL D (ps mk) x1.toNat x2.toNat x3.toNat := by unfold crA; rw [if_neg hm60]
    have ecW : crW D mk (ps mk) x1 x2 x3 = if ¬ jB D (ps mk) x1 x2 x3 = 0 then -1 else jW D (ps mk) x1.toNat x2.toNat x3.toNat := by unfold crW; rw [if_neg hm60]
    have hs78 : z_u I 1732 1 (-1) 1780 mk = ps mk := by rw [fz 1780 (by decide)]; exact (p2 mk (Nat.le_refl _)).1
    refine c88 (by omega) (fun d' _ => k88 h1 h2 h3 (by omega) U1 hpb z0 hmk hs78 s1.1 (b87_31 ?_))
    have hjr := jB_in (D := D) (s := ps mk) (x1 := x1) (x2 := x2) (x3 := x3)
    refine ⟨⟨by omega, by omega⟩, fun cj => ?_, fun cj => ?_⟩
    · obtain ⟨b, p, S, e1, e2, e3, hb, hp, hf, hsub, hSA, hr, hm, hw, hl⟩ := jB_0 hD h3 cj
      rw [if_neg (fun z => z cj)] at ecA ecW
      have hB := hD.2.2.1
      have hS4 := hD.1
      have hA := dAll_lt hD
      have hmx := (dsm hD S).2.2.2
      subst e1 e2 e3
      rw [Int.toNat_natCast, Int.toNat_natCast, Int.toNat_natCast] at ecA ecW
      refine c90 (by omega) (fun d' _ => k90 rfl rfl rfl (by omega) U1 hpb z0 hmk hs78 s1.1 hb hp hSA (fun I' I1 f1 g0 g1 hU1 => b87_45 ?_))
      by_cases cl : jL D (ps mk) b p S = 0
      · have g0 := g0 cl
        subst g0
        rw [cl]
        have hC : CD (t_pb t) I' D := by rw [hpb]; exact hU1.1
        have y0 : I' 1732 0 = mk := by rw [f1 1732 (by decide) (by decide)]; exact z0
        have y1 : I' 1732 1 = -1 := by rw [f1 1732 (by decide) (by decide), zu_same]
        have y78 : I' 1780 = I 1780 := by rw [f1 1780 (by decide) (by decide), fz 1780 (by decide)]
        have y81 : I' 1812 = I 1812 := by rw [f1 1812 (by decide) (by decide), fz 1812 (by decide)]
        refine b87_47 ?_
        rw [y0]
        refine ⟨⟨by decide, by decide⟩, fun _ => ?_, fun z => absurd rfl z⟩
        refine c89 (by omega) (fun d' _ => k89 (v := (ps mk : Int)) y0 hmk (by rw [y78]; exact (p2 mk (Nat.le_refl _)).1) (b87_70 ?_))
        refine c52 (by omega) (fun d' _ => k52 rfl rfl rfl rfl (by omega) hC hD s1.1 (by omega) (by omega) (by omega) (b87_76 ?_))
        rw [y0, show (mk : Int) + 1 = ((mk + 1 : Nat) : Int) by omega, Int.toNat_natCast]
        refine ⟨⟨by omega, by omega⟩, ?_⟩
        have hU2 : RU t (z_u I' 1780 (mk + 1) ((dAfter D (ps mk) b p S : Nat) : Int)) D := hU1.fp (fun a _ a2 _ => zu_ne a2)
        refine c178 (by omega) (fun d' _ => k178 (mk := mk) (v := (pm mk : Int)) (by rw [zu_ne (by decide : ¬ 1732 = 1780)]; exact y0) hmk (by rw [zu_ne (by decide : ¬ 1812 = 1780), y81]; exact (p2 mk (Nat.le_refl _)).2) (b87_91 ?_))
        refine c66 (by omega) (fun d' _ => k66 rfl hU2.2.1 hD hSA (b87_99 ?_))
        rw [zu_ne (by decide : ¬ 1732 = 1780), y0, Int.toNat_natCast, show (mk : Int) + 1 = ((mk + 1 : Nat) : Int) by omega]
        refine ⟨⟨by omega, by omega⟩, ?_⟩
        have ec0 : crA D mk (ps mk) (b : Int) (p : Int) (S : Int) = 0 := by rw [ecA]; exact cl
        have hjw : crW D mk (ps mk) (b : Int) (p : Int) (S : Int) = -1 := by
          rw [ecW]
          unfold jL at cl
          unfold jW
          by_cases q1 : dShores D (dStart D) = 0
          · rw [if_neg (fun z => z q1)] at cl ⊢
            by_cases q2 : dWaters D (ps mk) b S = 0
            · rw [if_neg (fun z => z q2)] at cl ⊢
              by_cases q3 : dShores D (dAfter D (ps mk) b p S) = 0
              · rw [if_neg (fun z => z q3)]
              · rw [if_pos q3] at cl; exact absurd cl (by decide)
            · rw [if_pos q2] at cl; exact absurd cl (by decide)
          · rw [if_pos q1] at cl; exact absurd cl (by decide)
        have := h (z_u (z_u (z_u I' 1780 (mk + 1) ((dAfter D (ps mk) b p S : Nat) : Int)) 1812 (mk + 1) ((pm mk : Int) + ((mx (dT D) (dMi D) S : Nat) : Int))) 1732 0 ((mk + 1 : Nat) : Int)) (fun a a1 a2 a3 a4 a5 => by rw [zu_ne a3, zu_ne a5, zu_ne a4, f1 a a1 a2, fz a a3]) (hU1.fp (fun a a1 a2 a3 => by rw [zu_ne a1, zu_ne a3, zu_ne a2])) (by
          unfold nMk nPs nPm
          rw [if_pos ec0, if_pos ec0, if_pos ec0, hjw]
          refine ⟨zu_same _ _ _ _, ?_, fun i hi => ?_⟩
          · rw [zu_nk (by decide : ¬ 1 = 0), zu_ne (by decide : ¬ 1732 = 1812), zu_ne (by decide : ¬ 1732 = 1780)]; exact y1
          · rw [zu_ne (by decide : ¬ 1780 = 1732), zu_ne (by decide : ¬ 1780 = 1812), zu_ne (by decide : ¬ 1812 = 1732), zu_at, zu_at, Int.toNat_natCast, Int.toNat_natCast, Int.toNat_natCast, zu_ne (by decide : ¬ 1812 = 1780)]
            by_cases q : i = mk + 1
            · rw [if_pos q, if_pos q, q, upN_at, upN_at]
              exact ⟨rfl, by omega⟩
            · rw [if_neg q, if_neg q, upN_ne q, upN_ne q, y78, y81]
              exact p2 i (by omega))
        rw [ec0] at this
        exact this
      · have g1 := g1 cl
        have hne : ¬ crA D mk (ps mk) (b : Int) (p : Int) (S : Int) = 0 := by rw [ecA]; exact cl
        have := h I' (fun a a1 a2 a3 _ _ => by rw [g1, zu_ne a3, f1 a a1 a2, fz a a3]) (by rw [g1]; exact hU1.fp (fun a a1 _ _ => zu_ne a1)) (same I' _ hne (by rw [g1, zu_nk (by decide : ¬ 0 = 1), f1 1732 (by decide) (by decide)]; exact z0) (by rw [g1, zu_same]) (by rw [g1, zu_ne (by decide : ¬ 1780 = 1732), f1 1780 (by decide) (by decide), fz 1780 (by decide)]) (by rw [g1, zu_ne (by decide : ¬ 1812 = 1732), f1 1812 (by decide) (by decide), fz 1812 (by decide)]) ecW)
        rw [ecA] at this
        have hjl : 0 ≤ jL D (ps mk) b p S ∧ jL D (ps mk) b p S ≤ 8 := by
          unfold jL
          repeat' split
          all_goals omega
        exact b87_47 ⟨⟨by omega, by omega⟩, fun z => absurd z cl, fun _ => this⟩
    · rw [if_pos cj] at ecA ecW
      have := h (z_u I 1732 1 (-1)) (fun a _ _ a3 _ _ => fz a a3) U1 (same _ (-1) (by rw [ecA]; exact cj) z0 (zu_same _ _ _ _) (fz 1780 (by decide)) (fz 1812 (by decide)) ecW)
      rw [ecA] at this
      exact b87_47 ⟨⟨by omega, by omega⟩, fun z => absurd z cj, fun _ => this⟩
  · have hm60 : mk = 60 := by omega
    have ecA : crA D mk (ps mk) x1 x2 x3 = 9 := by unfold crA; rw [if_pos hm60]
    have ecW : crW D mk (ps mk) x1 x2 x3 = -1 := by unfold crW; rw [if_pos hm60]
    have := h (z_u I 1732 1 (-1)) (fun a _ _ a3 _ _ => fz a a3) U1 (same _ (-1) (by rw [ecA]; decide) z0 (zu_same _ _ _ _) (fz 1780 (by decide)) (fz 1812 (by decide)) ecW)
    rw [ecA] at this
    exact this
end
