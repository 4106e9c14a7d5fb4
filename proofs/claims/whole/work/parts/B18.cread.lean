/-! ===== a text, the class: a clause, its head, all of it ===== -/
section
variable {B : Nat → Nat} {n : Nat} {D : tD} {w : Bool}
theorem xE_le {p : Nat} (h : p ≤ n) : p ≤ xE B n p ∧ xE B n p ≤ n := by
  have a := xS_r (B := B) h
  have b := xE_r (B := B) h
  omega
theorem tCla_ok {p q : Nat} (hp : p ≤ n) (hD : dOk D) (h : (tCla B n D w p).1 = .inl q) : dOk (tCla B n D w p).2.1 ∧ p ≤ q ∧ q ≤ n := by
  have a0 : aft1 n p (.inl (xE B n p)) := xE_le hp
  unfold tCla at h ⊢
  by_cases c1 : xW B n p 1 = true
  · rw [if_pos c1] at h ⊢
    have h : (tThing B n D p).1 = .inl q := h
    refine ⟨(tThing_ok hp hD h).2.1, ?_⟩
    have c8 := (tThing_ok hp hD h).1
    have et : (tThing B n D p).1 = tTh3 B n D p := by unfold tThing; rw [if_neg c8]
    rw [et] at h
    have an : aft1 n p (nameAt B n D (xE B n p)) := by
      unfold nameAt
      have b0 := xE_le (B := B) hp
      have b1 := xE_le (B := B) b0.2
      have s1 := xS_r (B := B) b0.2
      split
      · split
        · exact ⟨by omega, b1.2⟩
        · exact ⟨(by decide : 1 ≤ 5 ∧ 5 ≤ 5), s1.2⟩
      · exact ⟨(by decide : 1 ≤ 1 ∧ 1 ≤ 5), s1.2⟩
    have a2 : aft1 n p (tTh2 B n D p) := an.nw.num
    have a3 : aft1 n p (tTh3 B n D p) := by
      unfold tTh3
      split
      · exact a2.adv.num
      · exact a2
    rw [h] at a3
    exact a3
  · rw [if_neg c1] at h ⊢
    by_cases c2 : xW B n p 2 = true
    · rw [if_pos c2] at h ⊢
      have h : (tBoat B n D p).1 = .inl q := h
      refine ⟨(tBoat_ok hD h).2.1, ?_⟩
      have c8 := (tBoat_ok hD h).1
      have et : (tBoat B n D p).1 = xSho B n (dS D) (-1) (tBo3 B n p) := by unfold tBoat; rw [if_neg c8]
      have a : aft1 n p (xSho B n (dS D) (-1) (tBo3 B n p)) := aft1.sho ((((a0.nw).num).nw).num.nw)
      rw [← et, h] at a
      exact a
    · rw [if_neg c2] at h ⊢
      have wat : ∀ both : Bool, (tWater B n D both p).1 = .inl q → dOk (tWater B n D both p).2 ∧ p ≤ q ∧ q ≤ n := fun both h => by
        refine ⟨(tWater_ok hD h).2.1, ?_⟩
        have a : aft1 n p (tWater B n D both p).1 := a0.sho.sho
        rw [h] at a
        exact a
      by_cases c3 : xW B n p 3 = true
      · rw [if_pos c3] at h ⊢
        exact wat true h
      · rw [if_neg c3] at h ⊢
        by_cases c4 : xW B n p 4 = true
        · rw [if_pos c4] at h ⊢
          exact wat false h
        · rw [if_neg c4] at h ⊢
          by_cases c5 : xW B n p 5 = true
          · rw [if_pos c5] at h ⊢
            have h : (tLamp B n D p).1 = .inl q := h
            refine ⟨(tLamp_ok hD h).2.1, ?_⟩
            have c8 := (tLamp_ok hD h).1
            have et : (tLamp B n D p).1 = xSho B n (dS D) (-1) (tLa1 B n p) := by unfold tLamp; rw [if_pos c8]
            have a : aft1 n p (xSho B n (dS D) (-1) (tLa1 B n p)) := a0.nw.sho
            rw [← et, h] at a
            exact a
          · rw [if_neg c5] at h ⊢
            by_cases c6 : xW B n p 6 = true
            · rw [if_pos c6] at h ⊢
              have h : (tLaw B n D p).1 = .inl q := h
              obtain ⟨o1, o2, C, q1, g1, g2, g3, g4⟩ := tLaw_ok hD h
              have gl := GL.exp (B := B) (D := D) 6 _ _ _ a0.2 g1
              have gq := g3 gl.2
              have b0 := xE_le (B := B) hp
              exact ⟨o2, by omega, gq.2⟩
            · rw [if_neg c6] at h
              cases h
theorem tCl_ok {p q : Nat} (hp : p ≤ n) (hD : dOk D) (h : (tCl B n D w p).1 = .inl q) : (∃ q1, (tCla B n D w p).1 = .inl q1 ∧ q = xE B n q1 ∧ p ≤ q1) ∧ dOk (tCl B n D w p).2.1 ∧ p + 1 ≤ q ∧ q ≤ n := by
  have h : xNG B n 59 (tCla B n D w p).1 = .inl q := h
  unfold xNG at h
  by_cases c : xIsG B n 59 (tCla B n D w p).1 = true
  · rw [if_pos c] at h
    obtain ⟨q1, e1⟩ := xIsG_l c
    rw [e1] at h c
    have a := tCla_ok hp hD e1
    have b := xE_gt a.2.2 (xIsG_k c)
    cases h
    exact ⟨⟨q1, e1, rfl, a.2.1⟩, a.1, by omega, b.2⟩
  · rw [if_neg c] at h
    cases hs : (tCla B n D w p).1 with
    | inl q1 => rw [hs] at h; cases h
    | inr e => rw [hs] at h; cases h
end
section
variable {sc : mS} {d : Nat} {t : zT} {I J I' : Nat → Nat → Int} {Q : zR → zW → Prop} {B : Nat → Nat} {n : Nat} {D : tD} {w : Bool} {cl : Nat}
theorem k109 {p : Nat} (hd : 86 ≤ d) (hP : CP I B n (.inl p)) (hA : CA (t_eb t) I D w cl) (hcl : cl ≤ p) (hS : SN (t_eb t) I) (hD : dOk D) (hq : CQ t J B n I Q (tCl B n D w p).1 (tCl B n D w p).2.1 (tCl B n D w p).2.2) : Go sc d mt_109 0 [vr 805] [] (z_cfg t, I, J) Q := by
  have hpn := hP.le
  have e103 : ∀ (s : xT) (D' : tD) (w' : Bool), tCla B n D w p = (s, D', w') → ∀ (I1 : Nat → Nat → Int), xFm I I1 (t_eb t) → CP I1 B n s → SN (t_eb t) I1 → (∀ q, s = .inl q → ∃ cl, cl ≤ q ∧ CA (t_eb t) I1 D' w' cl) → Go sc d mt_109 103 [vr 805] [] (z_cfg t, I1, J) Q := fun s D' w' e I1 F1 P1 S1 h1 => by
    refine b109_103 (c107 (by omega) (fun d' _ => k107 (c := 59) rfl (by decide) (by omega) P1 (fun I2 f2 P2 => b109_109 ?_)))
    have et : tCl B n D w p = (xNG B n 59 s, D', w') := by unfold tCl; rw [e]
    refine hq I2 (F1.tr (xFm.fr f2)) (by rw [et]; exact P2) (S1.xfr f2) (fun q z => ?_)
    obtain ⟨⟨q1, g1, g2, g3⟩, g4, g5⟩ := tCl_ok hpn.1 hD z
    rw [e] at g1
    obtain ⟨cl1, l1, A1⟩ := h1 q1 g1
    rw [et]
    have hE := tCla_ok hpn.1 hD (show (tCla B n D w p).1 = .inl q1 by rw [e]; exact g1)
    have hE2 := xE_le (B := B) hE.2.2
    exact ⟨cl1, by omega, A1.xfr f2⟩
  refine b109_0 (c104 (by omega) (fun d' _ => k104 (k := 1) rfl (by decide) hP (b109_6 ?_)))
  rw [xIsW_v]
  cases h1 : xW B n p 1 with
  | true =>
    refine ⟨⟨by decide, by decide⟩, fun z => absurd z (by decide), fun _ => ?_⟩
    have e : tCla B n D w p = ((tThing B n D p).1, (tThing B n D p).2, w) := by unfold tCla; rw [if_pos h1]
    exact c110 (by omega) (fun d' _ => k110 (by omega) hP hA hcl hS hD (fun I1 F1 P1 S1 g1 => b109_13 (e103 _ _ _ e I1 F1 P1 S1 g1)))
  | false =>
    have n1 : ¬ xW B n p 1 = true := by rw [h1]; decide
    refine ⟨⟨by decide, by decide⟩, fun _ => ?_, fun z => absurd rfl z⟩
    refine c104 (by omega) (fun d' _ => k104 (k := 2) rfl (by decide) hP (b109_22 ?_))
    rw [xIsW_v]
    cases h2 : xW B n p 2 with
    | true =>
      refine ⟨⟨by decide, by decide⟩, fun z => absurd z (by decide), fun _ => ?_⟩
      have e : tCla B n D w p = ((tBoat B n D p).1, (tBoat B n D p).2, w) := by unfold tCla; rw [if_neg n1, if_pos h2]
      exact c115 (by omega) (fun d' _ => k115 (by omega) hP hA hcl hS hD (fun I1 F1 P1 S1 g1 => b109_29 (e103 _ _ _ e I1 F1 P1 S1 g1)))
    | false =>
      have n2 : ¬ xW B n p 2 = true := by rw [h2]; decide
      refine ⟨⟨by decide, by decide⟩, fun _ => ?_, fun z => absurd rfl z⟩
      refine c104 (by omega) (fun d' _ => k104 (k := 3) rfl (by decide) hP (b109_38 ?_))
      rw [xIsW_v]
      cases h3 : xW B n p 3 with
      | true =>
        refine ⟨⟨by decide, by decide⟩, fun z => absurd z (by decide), fun _ => ?_⟩
        have e : tCla B n D w p = ((tWater B n D true p).1, (tWater B n D true p).2, true) := by unfold tCla; rw [if_neg n1, if_neg n2, if_pos h3]
        exact c117 (by omega) (fun d' _ => k117 (both := true) (by omega) hP hA hcl hS hD (fun I1 F1 P1 S1 g1 => b109_46 (e103 _ _ _ e I1 F1 P1 S1 g1)))
      | false =>
        have n3 : ¬ xW B n p 3 = true := by rw [h3]; decide
        refine ⟨⟨by decide, by decide⟩, fun _ => ?_, fun z => absurd rfl z⟩
        refine c104 (by omega) (fun d' _ => k104 (k := 4) rfl (by decide) hP (b109_55 ?_))
        rw [xIsW_v]
        cases h4 : xW B n p 4 with
        | true =>
          refine ⟨⟨by decide, by decide⟩, fun z => absurd z (by decide), fun _ => ?_⟩
          have e : tCla B n D w p = ((tWater B n D false p).1, (tWater B n D false p).2, true) := by unfold tCla; rw [if_neg n1, if_neg n2, if_neg n3, if_pos h4]
          exact c117 (by omega) (fun d' _ => k117 (both := false) (by omega) hP hA hcl hS hD (fun I1 F1 P1 S1 g1 => b109_63 (e103 _ _ _ e I1 F1 P1 S1 g1)))
        | false =>
          have n4 : ¬ xW B n p 4 = true := by rw [h4]; decide
          refine ⟨⟨by decide, by decide⟩, fun _ => ?_, fun z => absurd rfl z⟩
          refine c104 (by omega) (fun d' _ => k104 (k := 5) rfl (by decide) hP (b109_72 ?_))
          rw [xIsW_v]
          cases h5 : xW B n p 5 with
          | true =>
            refine ⟨⟨by decide, by decide⟩, fun z => absurd z (by decide), fun _ => ?_⟩
            have e : tCla B n D w p = ((tLamp B n D p).1, (tLamp B n D p).2, w) := by unfold tCla; rw [if_neg n1, if_neg n2, if_neg n3, if_neg n4, if_pos h5]
            exact c118 (by omega) (fun d' _ => k118 (by omega) hP hA hcl hS hD (fun I1 F1 P1 S1 g1 => b109_79 (e103 _ _ _ e I1 F1 P1 S1 g1)))
          | false =>
            have n5 : ¬ xW B n p 5 = true := by rw [h5]; decide
            refine ⟨⟨by decide, by decide⟩, fun _ => ?_, fun z => absurd rfl z⟩
            refine c104 (by omega) (fun d' _ => k104 (k := 6) rfl (by decide) hP (b109_88 ?_))
            rw [xIsW_v]
            cases h6 : xW B n p 6 with
            | true =>
              refine ⟨⟨by decide, by decide⟩, fun z => absurd z (by decide), fun _ => ?_⟩
              have e : tCla B n D w p = ((tLaw B n D p).1, (tLaw B n D p).2, w) := by unfold tCla; rw [if_neg n1, if_neg n2, if_neg n3, if_neg n4, if_neg n5, if_pos h6]
              exact c119 (by omega) (fun d' _ => k119 (by omega) hP hA hcl hS hD (fun I1 F1 P1 S1 g1 => b109_95 (e103 _ _ _ e I1 F1 P1 S1 g1)))
            | false =>
              have n6 : ¬ xW B n p 6 = true := by rw [h6]; decide
              refine ⟨⟨by decide, by decide⟩, fun _ => ?_, fun z => absurd rfl z⟩
              have e : tCla B n D w p = (.inr (1, xS B n p), D, w) := by unfold tCla; rw [if_neg n1, if_neg n2, if_neg n3, if_neg n4, if_neg n5, if_neg n6]
              exact c106 (by omega) (fun d' _ => k106 (f := 1) rfl (by decide) hP (fun I1 f1 P1 => e103 _ _ _ e I1 (xFm.fr f1) P1 (hS.xfr f1) (fun q z => by cases z)))
theorem CA.sh {b : Bool} {v : Nat} (h : CA b I dIni false 0) (md : ∀ k, ¬ k = 0 → I' (z_md b) k = I (z_md b) k) (m0 : I' (z_md b) 0 = (v : Int)) (mf : ∀ k, I' (z_mf b k) = I (z_mf b k)) : CA b I' (d_S dIni v) false 0 := by
  obtain ⟨⟨h0, h1, h5, h9, h12, ht, hb, hwa, hsc, st, s1, s2, s3⟩, g1, g2, g3⟩ := h
  refine ⟨⟨m0, (md 1 (by decide)).trans h1, (md 5 (by decide)).trans h5, (md 9 (by decide)).trans h9, (md 12 (by decide)).trans h12, fun i hi => absurd hi (Nat.not_lt_zero _), fun i hi => absurd hi (Nat.not_lt_zero _), fun i hi => ?_, fun i hi => absurd hi (Nat.not_lt_zero _), st, fun k hk => ?_, fun i hi => absurd hi (Nat.not_lt_zero _), s3⟩, (md 10 (by decide)).trans g1, (md 16 (by decide)).trans g2, ?_⟩
  · rw [mf 11]; exact hwa i hi
  · rw [mf 14]; exact s1 k hk
  · rw [mf 14]; exact g3
theorem k102 (hd : 5 ≤ d) (hP : CP I B n (.inl 0)) (hA : CA (t_eb t) I dIni false 0) (hS : SN (t_eb t) I) (hq : CQ t J B n I Q (tHead B n).1 (tHead B n).2.1 (tHead B n).2.2) : Go sc d mt_102 0 [vr 805] [] (z_cfg t, I, J) Q := by
  refine b102_0 (c103 (by omega) (fun d' _ => k103 (k := 0) rfl (by decide) (by omega) hP (fun I1 f1 P1 => b102_6 ?_)))
  rw [xIsW_v]
  have P1 : CP I1 B n (if xW B n 0 0 = true then .inl (xE B n 0) else .inl 0) := P1
  cases h0 : xW B n 0 0 with
  | false =>
    rw [h0, if_neg (by decide)] at P1
    have e : tHead B n = (.inl 0, dIni, false) := by unfold tHead; rw [if_neg (by rw [h0]; decide)]
    rw [e] at hq
    exact ⟨⟨by decide, by decide⟩, fun _ => hq I1 (xFm.fr f1) P1 (hS.xfr f1) (fun q z => ⟨0, Nat.zero_le _, hA.xfr f1⟩), fun z => absurd rfl z⟩
  | true =>
    rw [h0, if_pos rfl] at P1
    have e : tHead B n = (xNG B n 59 (xNum B n 2 4 (.inl (xE B n 0))), d_S dIni (xV B n (xE B n 0)), false) := by unfold tHead; rw [if_pos h0]
    rw [e] at hq
    refine ⟨⟨by decide, by decide⟩, fun z => absurd z (by decide), fun _ => ?_⟩
    refine c105 (by omega) (fun d' _ => k105 (lo := 2) (hi := 4) rfl rfl (by omega) (by omega) (by omega) P1 (fun I2 v f2 P2 hv hv0 => b102_19 ?_))
    refine c107 (by omega) (fun d' _ => k107 (c := 59) rfl (by decide) (by omega) (P2.md (b := t_eb t)) (fun I3 f3 P3 => b102_28 ?_))
    have f12 := f1.tr f2
    have S3 : SN (t_eb t) (z_u I2 (z_md (t_eb t)) 0 (v : Int)) := (hS.xfr f12).fr (zu_ne (fun z => zmm _ _ z.symm)) (zu_ne (fun z => zmm _ _ z.symm)) (by rw [zu_ne (fun z => zmm _ _ z.symm)]) (by rw [zu_nk (by decide)]; exact (hS.xfr f12).2.2)
    refine hq I3 (((xFm.fr f12).tr xFm.md).tr (xFm.fr f3)) P3 (S3.xfr f3) (fun q z => ⟨0, Nat.zero_le _, ?_⟩)
    have z : xNG B n 59 (xNum B n 2 4 (.inl (xE B n 0))) = .inl q := z
    have hg : ∃ q1, xNum B n 2 4 (.inl (xE B n 0)) = .inl q1 := by
      cases hs : xNum B n 2 4 (.inl (xE B n 0)) with
      | inl q1 => exact ⟨q1, rfl⟩
      | inr e' =>
        rw [hs] at z
        unfold xNG at z
        rw [if_neg (fun z => by cases z)] at z
        cases z
    have ev : v = xV B n (xE B n 0) := (hv hg).1
    rw [← ev]
    exact ((hA.xfr f12).sh (fun k hk => zu_nk hk) (zu_same _ _ _ _) (fun k => zu_ne (fun z => zmm _ _ z.symm))).xfr f3
theorem k10 {bm : Bool} (hd : 3 ≤ d) (hS : SN bm I) (hq : ∀ (I' : Nat → Nat → Int), xFm I I' bm → I' 805 = I 805 → SN bm I' → CA bm I' dIni false 0 → Q (.inl none) (z_cfg t, I', J)) : Go sc d mt_10 0 [vr (z_md bm)] [] (z_cfg t, I, J) Q := by
  have key : ∀ (I1 I2 : Nat → Nat → Int), I1 = z_u (z_u (z_u (z_u (z_u I (z_md bm) 0 2) (z_md bm) 1 0) (z_md bm) 5 0) (z_md bm) 9 (-1)) (z_md bm) 10 0 → (∀ j, j < 4 → I2 (z_mf bm 11) j = 0) → (∀ i, ¬ i = z_mf bm 11 → I2 i = I1 i) → Go sc d mt_10 33 [vr (z_md bm)] [] (z_cfg t, I2, J) Q := fun I1 I2 e1 hr hf => by
    have md : ∀ k, I2 (z_md bm) k = I1 (z_md bm) k := fun k => by rw [hf _ (zmm _ _)]
    have mf1 : ∀ k, I1 (z_mf bm k) = I (z_mf bm k) := fun k => by
      rw [e1, zu_ne (fun z => zmm _ _ z.symm), zu_ne (fun z => zmm _ _ z.symm), zu_ne (fun z => zmm _ _ z.symm), zu_ne (fun z => zmm _ _ z.symm), zu_ne (fun z => zmm _ _ z.symm)]
    have mf : ∀ k, ¬ k = 11 → I2 (z_mf bm k) = I (z_mf bm k) := fun k hk => by rw [hf _ (zff _ (by decide) hk), mf1]
    have F1 : xFm I I1 bm := by rw [e1]; exact (((xFm.md.tr xFm.md).tr xFm.md).tr xFm.md).tr xFm.md
    have F2 : xFm I1 I2 bm := fun a h1 h2 => hf a (fun z => h2 (by rw [z]; exact (zrg bm (by decide)).1))
    refine b10_33 (hq _ ((F1.tr F2).tr (xFm.md.tr xFm.md)) ?_ ?_ ?_)
    · rw [zu_ne (by have := zmd_or bm; omega), zu_ne (by have := zmd_or bm; omega), hf _ (fun z => (zrg bm (k := 11) (by decide)).2.1 z.symm), e1]
      rw [zu_ne (by have := zmd_or bm; omega), zu_ne (by have := zmd_or bm; omega), zu_ne (by have := zmd_or bm; omega), zu_ne (by have := zmd_or bm; omega), zu_ne (by have := zmd_or bm; omega)]
    · refine hS.fr ?_ ?_ ?_ (Or.inl ?_)
      · rw [zu_ne (fun z => zmm _ _ z.symm), zu_ne (fun z => zmm _ _ z.symm), mf 6 (by decide)]
      · rw [zu_ne (fun z => zmm _ _ z.symm), zu_ne (fun z => zmm _ _ z.symm), mf 7 (by decide)]
      · rw [zu_ne (fun z => zmm _ _ z.symm), zu_ne (fun z => zmm _ _ z.symm), mf 14 (by decide)]
      · rw [zu_nk (by decide), zu_nk (by decide), md, e1, zu_same]
    · refine ⟨⟨?_, ?_, ?_, ?_, ?_, fun i hi => absurd hi (Nat.not_lt_zero _), fun i hi => absurd hi (Nat.not_lt_zero _), fun i hi => ?_, fun i hi => absurd hi (Nat.not_lt_zero _), fun _ => 0, fun k hk => ?_, fun i hi => absurd hi (Nat.not_lt_zero _), fun _ _ => Nat.zero_le _⟩, ?_, ?_, ?_⟩
      · rw [zu_nk (by decide), zu_nk (by decide), md, e1, zu_nk (by decide), zu_nk (by decide), zu_nk (by decide), zu_nk (by decide), zu_same]; rfl
      · rw [zu_nk (by decide), zu_nk (by decide), md, e1, zu_nk (by decide), zu_nk (by decide), zu_nk (by decide), zu_same]; rfl
      · rw [zu_nk (by decide), zu_nk (by decide), md, e1, zu_nk (by decide), zu_nk (by decide), zu_same]; rfl
      · rw [zu_nk (by decide), zu_nk (by decide), md, e1, zu_nk (by decide), zu_same]; rfl
      · rw [zu_nk (by decide), zu_same]; rfl
      · rw [zu_ne (fun z => zmm _ _ z.symm), zu_ne (fun z => zmm _ _ z.symm), hr i hi]; rfl
      · have hk0 : k = 0 := Nat.le_zero.1 hk
        rw [hk0, zu_ne (fun z => zmm _ _ z.symm), zu_ne (fun z => zmm _ _ z.symm), mf 14 (by decide), hS.2.1]; rfl
      · rw [zu_nk (by decide), zu_nk (by decide), md, e1, zu_same]; rfl
      · rw [zu_same]; rfl
      · show z_u (z_u I2 (z_md bm) 12 0) (z_md bm) 16 0 (z_mf bm 14) 0 = _
        rw [zu_ne (fun z => zmm _ _ z.symm), zu_ne (fun z => zmm _ _ z.symm), mf 14 (by decide), hS.2.1]; rfl
  refine b10_0 ?_
  cases bm with
  | false => exact k11 (a := 339) (n := 4) (by omega) rfl rfl (by decide) (fun I2 hr hf => key _ I2 rfl hr hf)
  | true => exact k11 (a := 691) (n := 4) (by omega) rfl rfl (by decide) (fun I2 hr hf => key _ I2 rfl hr hf)
theorem k12 {bm : Bool} (hq : ∀ (I' : Nat → Nat → Int), (∀ a, ¬ a = z_mf bm 11 → I' a = I a) → (∀ i, i < 4 → I' (z_mf bm 11) i = (w_all i : Int)) → Q (.inl none) (z_cfg t, I', J)) : Go sc d mt_12 0 [vr (z_md bm), vn] [] (z_cfg t, I, J) Q := by
  have val : ∀ i : Nat, i < 4 → zand 15 (zxor (zshl 1 (i : Int)) (-1)) = (w_all i : Int) := fun i hi => by
    have h : i = 0 ∨ i = 1 ∨ i = 2 ∨ i = 3 := by omega
    rcases h with e | e | e | e <;> subst e <;> decide
  have lp : ∀ (m i : Nat) (I1 : Nat → Nat → Int), i + m = 4 → (∀ a, ¬ a = z_mf bm 11 → I1 a = I a) → (∀ j, j < i → I1 (z_mf bm 11) j = (w_all j : Int)) → Go sc d mt_12 2 [vr (z_md bm), vi (i : Int)] [] (z_cfg t, I1, J) Q := by
    intro m
    induction m with
    | zero =>
      intro i I1 hi hf hr
      exact b12_2 ⟨⟨by omega, by omega⟩, fun z => by omega, fun _ => hq I1 hf (fun j hj => hr j (by omega))⟩
    | succ m ih =>
      intro i I1 hi hf hr
      refine b12_2 ?_
      rw [Int.toNat_natCast, val i (by omega), show (i : Int) + 1 = ((i + 1 : Nat) : Int) by omega]
      refine ⟨⟨by omega, by omega⟩, fun _ => ⟨⟨by omega, by omega⟩, ih (i + 1) _ (by omega) (fun a ha => by rw [zu_ne ha]; exact hf a ha) (fun j hj => ?_)⟩, fun z => by omega⟩
      rw [zu_at]
      by_cases c : j = i
      · rw [if_pos c, c]
      · rw [if_neg c]; exact hr j (by omega)
  exact b12_0 (lp 4 0 I (by omega) (fun _ _ => rfl) (fun j hj => absurd hj (by omega)))
/-- the text, read into model b -/
theorem k97 {x1 : Int} {bn : Bool} (e1 : x1 = n) (hd : 90 ≤ d) (hn : n ≤ 700) (hB : CB I B) (hS : SN bn I) (hq : ∀ (I' : Nat → Nat → Int), xFm I I' bn → CB I' B → SN bn I' → ((∃ q, (tAll B n).1 = .inl q ∧ I' 805 7 = 0 ∧ I' 805 8 = -1 ∧ CD bn I' (tEnd (tAll B n)) ∧ dOk (tEnd (tAll B n))) ∨ (∃ e, (tAll B n).1 = .inr e ∧ I' 805 7 = (e.1 : Int) ∧ I' 805 8 = (e.2 : Int) ∧ (1 ≤ e.1 ∧ e.1 ≤ 5) ∧ e.2 ≤ 700)) → Q (.inl (some (vi (I' 805 7)))) (z_cfg (t_seb t bn), I', J)) : Go sc d mt_97 0 [vr 805, vi x1, vr (z_md bn), vn] [] (z_cfg t, I, J) Q := by
  subst e1
  refine b97_0 ⟨⟨⟨by omega, by omega⟩, ⟨by decide, by decide⟩⟩, ?_⟩
  rw [if_neg (by omega)]
  have hdw : ∀ (a k : Nat) (v : Int) (I1 : Nat → Nat → Int), ¬ a = 805 → z_u I1 805 k v a = I1 a := fun a k v I1 h => zu_ne h
  have m805 : ¬ z_md bn = 805 := by have := zmd_or bn; omega
  have f805 : ∀ k, ¬ z_mf bn k = 805 := fun k => by have := zmf_lt bn k; omega
  have S0 : SN bn (z_u (z_u (z_u (z_u I 805 2 (n : Int)) 805 3 0) 805 7 0) 805 8 (-1)) := by
    refine hS.fr ?_ ?_ ?_ ?_
    · rw [hdw _ _ _ _ (f805 6), hdw _ _ _ _ (f805 6), hdw _ _ _ _ (f805 6), hdw _ _ _ _ (f805 6)]
    · rw [hdw _ _ _ _ (f805 7), hdw _ _ _ _ (f805 7), hdw _ _ _ _ (f805 7), hdw _ _ _ _ (f805 7)]
    · rw [hdw _ _ _ _ (f805 14), hdw _ _ _ _ (f805 14), hdw _ _ _ _ (f805 14), hdw _ _ _ _ (f805 14)]
    · rw [hdw _ _ _ _ m805, hdw _ _ _ _ m805, hdw _ _ _ _ m805, hdw _ _ _ _ m805]; exact hS.2.2
  have F0 : xFm I (z_u (z_u (z_u (z_u I 805 2 (n : Int)) 805 3 0) 805 7 0) 805 8 (-1)) bn := fun a h1 _ => by
    rw [hdw _ _ _ _ h1, hdw _ _ _ _ h1, hdw _ _ _ _ h1, hdw _ _ _ _ h1]
  refine c10 (by omega) (fun d' _ => k10 (by omega) S0 (fun I1 F1 g805 S1 A1 => b97_40 ?_))
  have F01 := F0.tr F1
  have B1 : CB I1 B := by
    unfold CB
    rw [F01 85 (by decide) (by have := zmd_or bn; omega)]
    exact hB
  have e2 : I1 805 2 = n := by rw [g805, zu_nk (by decide), zu_nk (by decide), zu_nk (by decide), zu_same]
  have e3 : I1 805 3 = ((0 : Nat) : Int) := by rw [g805, zu_nk (by decide), zu_nk (by decide), zu_same]; rfl
  have e7 : I1 805 7 = 0 := by rw [g805, zu_nk (by decide), zu_same]
  have e8 : I1 805 8 = -1 := by rw [g805, zu_same]
  refine c98 (by omega) (fun d' _ => k98 (by omega) B1 hn e2 e3 (Nat.zero_le _) (fun I2 fA T2 => b97_44 ?_))
  have f2 := xFr.fa fA
  have P2 : CP I2 B n (.inl 0) := ⟨B1.fa fA, hn, Nat.zero_le _, T2, by rw [fA.2 7 (by decide) (by decide) (by decide) (by decide)]; exact e7, by rw [fA.2 8 (by decide) (by decide) (by decide) (by decide)]; exact e8⟩
  refine c102 (by omega) (fun d' _ => k102 (t := t_seb t bn) (by omega) P2 (A1.xfr f2) (S1.xfr f2) (fun I3 F3 P3 S3 h3 => b97_48 ?_))
  have F03 : xFm I I3 bn := (F01.tr (xFm.fr f2)).tr F3
  have fin : ∀ (I4 : Nat → Nat → Int) (x3 : Int), xFm I I4 bn → CP I4 B n (tAll B n).1 → SN bn I4 → (∀ q, (tAll B n).1 = .inl q → dOk (tAll B n).2.1 ∧ ∃ cl, cl ≤ q ∧ CA bn I4 (tAll B n).2.1 (tAll B n).2.2 cl) → Go sc d mt_97 81 [vr 805, vi (n : Int), vr (z_md bn), vi x3] [] (z_cfg (t_seb t bn), I4, J) Q := fun I4 x3 F4 P4 S4 h4 => by
    have ends : ∀ (I5 : Nat → Nat → Int), xFm I4 I5 bn → I5 805 = I4 805 → SN bn I5 → (∀ q, (tAll B n).1 = .inl q → CD bn I5 (tEnd (tAll B n)) ∧ dOk (tEnd (tAll B n))) → Q (.inl (some (vi (I5 805 7)))) (z_cfg (t_seb t bn), I5, J) := fun I5 F5 c805 S5 h5 => by
      have P5 : CP I5 B n (tAll B n).1 := P4.fr (F5 85 (by decide) (by have := zmd_or bn; omega)) c805
      refine hq I5 (F4.tr F5) P5.1 S5 ?_
      cases hs : (tAll B n).1 with
      | inl q =>
        rw [hs] at P5
        exact Or.inl ⟨q, rfl, P5.2.2.2.2.1, P5.2.2.2.2.2, h5 q hs⟩
      | inr e =>
        rw [hs] at P5
        exact Or.inr ⟨e, rfl, P5.2.2.2.2.2.2.1, P5.2.2.2.2.2.2.2.1, P5.2.2.2.2.2.2.2.2.1, P5.2.2.2.2.2.2.2.2.2⟩
    refine b97_81 ?_
    show (inR (I4 (z_md bn) 10)) ∧ ((I4 (z_md bn) 10 = 0 → Cl sc d 12 [vr (z_md bn)] (z_cfg (t_seb t bn), I4, J) _) ∧ (¬ I4 (z_md bn) 10 = 0 → _))
    have s10 := S4.2.2
    refine ⟨⟨by omega, by omega⟩, fun z => ?_, fun z => ?_⟩
    · refine c12 (by omega) (fun d' _ => k12 (fun I5 hf hr => b97_98 ?_))
      have F5 : xFm I4 I5 bn := fun a h1 h2 => hf a (fun z => h2 (by rw [z]; exact (zrg bn (by decide)).1))
      refine ends I5 F5 (hf 805 (fun z => (zrg bn (k := 11) (by decide)).2.1 z.symm)) (S4.fr (hf _ (zff _ (by decide) (by decide))) (hf _ (zff _ (by decide) (by decide))) (by rw [hf _ (zff _ (by decide) (by decide))]) (by rw [hf _ (zmm _ _)]; exact s10)) (fun q hq2 => ?_)
      obtain ⟨o1, cl, o2, o3⟩ := h4 q hq2
      have w0 : (tAll B n).2.2 = false := by
        have g := o3.2.1
        rw [z] at g
        exact bf g.symm
      have ee : tEnd (tAll B n) = d_W (tAll B n).2.1 w_all := by unfold tEnd; rw [if_neg (by rw [w0]; decide)]
      rw [ee]
      refine ⟨?_, o1.W w_all_ok⟩
      obtain ⟨⟨h0, h1, h5, h9, h12, ht, hb, hwa, hsc, st, s1, s2, s3⟩, -⟩ := o3
      have md : I5 (z_md bn) = I4 (z_md bn) := hf _ (zmm _ _)
      have mf : ∀ k, ¬ k = 11 → I5 (z_mf bn k) = I4 (z_mf bn k) := fun k hk => hf _ (zff _ (by decide) hk)
      refine ⟨by rw [md]; exact h0, by rw [md]; exact h1, by rw [md]; exact h5, by rw [md]; exact h9, by rw [md]; exact h12, fun i hi => ?_, fun i hi => ?_, fun i hi => hr i hi, fun k hk => ?_, st, fun k hk => ?_, fun k hk => ⟨(s2 k hk).1, fun i c hc => ?_⟩, s3⟩
      · rw [mf 2 (by decide), mf 3 (by decide), mf 4 (by decide)]; exact ht i hi
      · rw [mf 6 (by decide), mf 7 (by decide), mf 8 (by decide)]; exact hb i hi
      · rw [mf 13 (by decide)]; exact hsc k hk
      · rw [mf 14 (by decide)]; exact s1 k hk
      · rw [mf 15 (by decide)]; exact (s2 k hk).2 i c hc
    · refine ends I4 (xFm.rf I4 bn) rfl S4 (fun q hq2 => ?_)
      obtain ⟨o1, cl, o2, o3⟩ := h4 q hq2
      have w1 : (tAll B n).2.2 = true := by
        have g := o3.2.1
        rw [g] at z
        exact bt z
      have ee : tEnd (tAll B n) = (tAll B n).2.1 := by unfold tEnd; rw [if_pos w1]
      rw [ee]
      exact ⟨o3.1, o1⟩
  have lp : ∀ (m i : Nat) (I4 : Nat → Nat → Int) (a : pA), i + m = 700 → xFm I I4 bn → CP I4 B n a.1 → SN bn I4 → (∀ q, a.1 = .inl q → dOk a.2.1 ∧ ∃ cl, cl ≤ q ∧ CA bn I4 a.2.1 a.2.2 cl) → tAll B n = tRun B n m a → Go sc d mt_97 50 [vr 805, vi (n : Int), vr (z_md bn), vi (i : Int)] [] (z_cfg (t_seb t bn), I4, J) Q := by
    intro m
    induction m with
    | zero =>
      intro i I4 a hi F4 P4 S4 h4 ea
      have ea : tAll B n = a := ea
      refine b97_50 ⟨⟨by omega, by omega⟩, fun z => by omega, fun _ => ?_⟩
      exact fin I4 _ F4 (by rw [ea]; exact P4) S4 (by rw [ea]; exact h4)
    | succ m ih =>
      intro i I4 a hi F4 P4 S4 h4 ea
      have hk := P4.k
      refine b97_50 ⟨⟨by omega, by omega⟩, fun _ => ⟨hk.2.2.2.1, fun z7 => ⟨hk.1, fun z4 => ?_, fun z4 => ?_⟩, fun z7 => ?_⟩, fun z => by omega⟩
      · obtain ⟨s, D, w⟩ := a
        cases s with
        | inr e => 
          have z8 : I4 805 7 = (e.1 : Int) := P4.2.2.2.2.2.2.1
          have z9 : 1 ≤ e.1 ∧ e.1 ≤ 5 := P4.2.2.2.2.2.2.2.2.1
          omega
        | inl p =>
          have e4 : I4 805 4 = xK B n p := P4.2.2.2.1.2.2.1
          have ea : tAll B n = (.inl p, D, w) := by
            rw [ea]
            show (if xK B n p = 0 then _ else _) = _
            rw [if_pos (by omega)]
          exact fin I4 _ F4 (by rw [ea]; exact P4) S4 (by rw [ea]; exact h4)
      · obtain ⟨s, D, w⟩ := a
        cases s with
        | inr e => 
          have z8 : I4 805 7 = (e.1 : Int) := P4.2.2.2.2.2.2.1
          have z9 : 1 ≤ e.1 ∧ e.1 ≤ 5 := P4.2.2.2.2.2.2.2.2.1
          omega
        | inl p =>
          have e4 : I4 805 4 = xK B n p := P4.2.2.2.1.2.2.1
          obtain ⟨o1, cl, o2, o3⟩ := h4 p rfl
          have o1 : dOk D := o1
          have P4 : CP I4 B n (.inl p) := P4
          have ea : tAll B n = tRun B n m (tCl B n D w p) := by
            rw [ea]
            show (if xK B n p = 0 then _ else _) = _
            rw [if_neg (by omega)]
          refine c109 (by omega) (fun d' _ => k109 (t := t_seb t bn) (by omega) P4 o3 o2 S4 o1 (fun I5 F5 P5 S5 h5 => b97_75 ?_))
          rw [show (i : Int) + 1 = ((i + 1 : Nat) : Int) by omega]
          refine ih (i + 1) I5 (tCl B n D w p) (by omega) (F4.tr F5) P5 S5 (fun q z => ⟨(tCl_ok P4.le.1 o1 z).2.1, h5 q z⟩) ea
      · obtain ⟨s, D, w⟩ := a
        cases s with
        | inl p =>
          have z8 : I4 805 7 = 0 := P4.2.2.2.2.1
          omega
        | inr e =>
          have ea : tAll B n = (.inr e, D, w) := ea
          exact fin I4 _ F4 (by rw [ea]; exact P4) S4 (by rw [ea]; exact h4)
  refine lp 700 0 I3 (tHead B n) (by omega) F03 P3 S3 (fun q z => ⟨?_, h3 q z⟩) rfl
  unfold tHead at z ⊢
  by_cases c : xW B n 0 0 = true
  · rw [if_pos c] at z ⊢
    have z : xNG B n 59 (xNum B n 2 4 (.inl (xE B n 0))) = .inl q := z
    have hg : ∃ q1, xNum B n 2 4 (.inl (xE B n 0)) = .inl q1 := by
      cases hs : xNum B n 2 4 (.inl (xE B n 0)) with
      | inl q1 => exact ⟨q1, rfl⟩
      | inr e' =>
        rw [hs] at z
        unfold xNG at z
        rw [if_neg (fun z => by cases z)] at z
        cases z
    obtain ⟨q1, e1⟩ := hg
    exact dOk.ini.S (xNum_i e1) rfl rfl rfl
  · rw [if_neg c]
    exact dOk.ini
end
