/-! ===== a text's clauses, the class: boat, water, lamp, law ===== -/
section
variable {sc : mS} {d : Nat} {t : zT} {I J I' : Nat → Nat → Int} {Q : zR → zW → Prop} {B : Nat → Nat} {n : Nat} {D : tD} {w : Bool} {cl : Nat}
theorem k115 {p : Nat} (hd : 5 ≤ d) (hP : CP I B n (.inl p)) (hA : CA (t_eb t) I D w cl) (hcl : cl ≤ p) (hS : SN (t_eb t) I) (hD : dOk D) (hq : CQ t J B n I Q (tBoat B n D p).1 (tBoat B n D p).2 w) : Go sc d mt_115 0 [vr 805, vn] [] (z_cfg t, I, J) Q := by
  have h2 := hD.2.2.1
  have hs4 := hD.1
  have hpn := hP.le
  have e1 : I (z_md (t_eb t)) 5 = dB D := hA.1.2.2.1
  refine b115_0 ?_
  rw [e1]
  refine ⟨⟨by omega, by omega⟩, fun c => by omega, fun _ => ⟨fun c => ?_, fun c => ?_⟩⟩
  · have c8 : ¬ dB D = 2 := by omega
    have et : tBoat B n D p = (xSho B n (dS D) (-1) (tBo3 B n p), d_B D (xVs B n (tBo1 B n p)) (xVs B n (tBo2 B n p)) (xVs B n (tBo3 B n p))) := by unfold tBoat; rw [if_neg c8]
    refine c98 (by omega) (fun d' _ => k98s (by omega) hP (fun I1 f1 P1 => b115_27 ?_))
    have hE := P1.le
    refine c114 (by omega) (fun d' _ => k114 (k := 9) rfl (by decide) (by omega) P1 (fun I2 f2 P2 => b115_33 ?_))
    have P2 : CP I2 B n (tBo1 B n p) := P2
    have g2 := f1.tr f2
    have e2 : I2 (z_md (t_eb t)) 5 = dB D := by rw [g2.md]; exact e1
    refine c105 (by omega) (fun d' _ => k105 (lo := 1) (hi := 8) rfl rfl (by omega) (by omega) (by omega) P2 (fun I3 vh f3 P3 hh hh0 => b115_48 ?_))
    have hvh : vh ≤ 8 := by
      by_cases z : ∃ p', xNum B n 1 8 (tBo1 B n p) = .inl p'
      · exact (hh z).2.2
      · rw [hh0 z]; decide
    rw [Int.toNat_natCast]
    refine ⟨⟨by omega, by omega⟩, ?_⟩
    refine c114 (by omega) (fun d' _ => k114 (k := 10) rfl (by decide) (by omega) (P3.mf (b := t_eb t) (k := 6) (i := dB D) (v := (vh : Int)) (by decide)) (fun I4 f4 P4 => b115_55 ?_))
    have P4 : CP I4 B n (tBo2 B n p) := P4
    have e4 : I4 (z_md (t_eb t)) 5 = dB D := by
      rw [f4.md, zu_ne (zmm _ _), f3.md]; exact e2
    refine c105 (by omega) (fun d' _ => k105 (lo := 0) (hi := 999) rfl rfl (by omega) (by omega) (by omega) P4 (fun I5 vo f5 P5 hl hl0 => b115_71 ?_))
    have hvo : vo ≤ 999 := by
      by_cases z : ∃ p', xNum B n 0 999 (tBo2 B n p) = .inl p'
      · exact (hl z).2.2
      · rw [hl0 z]; decide
    rw [Int.toNat_natCast]
    refine ⟨⟨by omega, by omega⟩, ?_⟩
    refine c114 (by omega) (fun d' _ => k114 (k := 11) rfl (by decide) (by omega) (P5.mf (b := t_eb t) (k := 7) (i := dB D) (v := (vo : Int)) (by decide)) (fun I6 f6 P6 => b115_78 ?_))
    have P6 : CP I6 B n (tBo3 B n p) := P6
    have md6 : I6 (z_md (t_eb t)) = I (z_md (t_eb t)) := by
      rw [f6.md, zu_ne (zmm _ _), f5.md, f4.md, zu_ne (zmm _ _), f3.md, g2.md]
    have mf6 : ∀ k, ¬ k = 6 → ¬ k = 7 → I6 (z_mf (t_eb t) k) = I (z_mf (t_eb t) k) := fun k k6 k7 => by
      rw [f6.mf, zu_ne (zff _ (by decide) k7), f5.mf, f4.mf, zu_ne (zff _ (by decide) k6), f3.mf, g2.mf]
    have r66 : ∀ i, I6 (z_mf (t_eb t) 6) i = if i = dB D then (vh : Int) else I (z_mf (t_eb t) 6) i := fun i => by
      rw [f6.mf, zu_ne (zff _ (by decide) (by decide)), f5.mf, f4.mf, zu_at, f3.mf, g2.mf]
    have r67 : ∀ i, I6 (z_mf (t_eb t) 7) i = if i = dB D then (vo : Int) else I (z_mf (t_eb t) 7) i := fun i => by
      rw [f6.mf, zu_at, f5.mf, f4.mf, zu_ne (zff _ (by decide) (by decide)), f3.mf, g2.mf]
    have hS6 : I6 (z_md (t_eb t)) 0 = dS D := by rw [md6]; exact hA.1.1
    refine c116 (by omega) (fun d' _ => k116 (o := -1) rfl ⟨by decide, by decide⟩ hS6 hs4 (by omega) P6 (fun I7 va f7 P7 ha ha3 => b115_91 ?_))
    rw [Int.toNat_natCast]
    have F7 : xFm I I7 (t_eb t) := (((((xFm.fr g2).tr (xFm.fr f3)).tr (xFm.mf (by decide))).tr (xFm.fr f4)).tr ((xFm.fr f5).tr ((xFm.mf (by decide)).tr (xFm.fr f6)))).tr (xFm.fr f7)
    refine ⟨⟨by omega, by omega⟩, hq _ (F7.tr ((xFm.mf (by decide)).tr xFm.md)) ?_ ?_ ?_⟩
    · rw [et]
      exact (P7.mf (by decide)).md
    · refine ⟨fun i hi => ?_, ?_, by rw [zu_nk (by decide), zu_ne (zmm _ _), f7.md, md6]; exact hS.2.2⟩
      · have h0 := hS.1 i hi
        rw [zu_ne (fun z => zmm _ _ z.symm), zu_ne (zff _ (by decide) (by decide)), zu_ne (fun z => zmm _ _ z.symm), zu_ne (zff _ (by decide) (by decide)), f7.mf, f7.mf, r66, r67]
        by_cases c : i = dB D
        · rw [if_pos c, if_pos c]; omega
        · rw [if_neg c, if_neg c]; exact h0
      · rw [zu_ne (fun z => zmm _ _ z.symm), zu_ne (zff _ (by decide) (by decide)), f7.mf, mf6 14 (by decide) (by decide)]
        exact hS.2.1
    · intro q hq2
      rw [et] at hq2 ⊢
      have hq2 : xSho B n (dS D) (-1) (tBo3 B n p) = .inl q := hq2
      have a1 := (ha ⟨q, hq2⟩).1
      obtain ⟨q3, e3⟩ := xSho_g hq2
      obtain ⟨q2, e2', -⟩ := xNW_i (s := xNum B n 0 999 (tBo2 B n p)) e3
      have l1 := (hl ⟨q2, e2'⟩).1
      obtain ⟨q1, e1'⟩ := xNum_g e2'
      obtain ⟨q0, e0, -⟩ := xNW_i (s := xNum B n 1 8 (tBo1 B n p)) e1'
      have h1 := (hh ⟨q0, e0⟩).1
      subst a1 l1 h1
      have hle : aft1 n p (xSho B n (dS D) (-1) (tBo3 B n p)) := by
        have a2 := xS_r (B := B) hpn.1
        have b2 := xE_r (B := B) hpn.1
        have a0 : aft1 n p (.inl (xE B n p)) := ⟨by omega, b2.2.1⟩
        exact aft1.sho ((((a0.nw).num).nw).num.nw)
      rw [hq2] at hle
      refine ⟨cl, Nat.le_trans hcl hle.1, hA.bo (fun k hk => ?_) ?_ (fun k k6 k7 k8 => ?_) (fun i => ?_) (fun i => ?_) (fun i => ?_)⟩
      · rw [zu_nk hk, zu_ne (zmm _ _), f7.md, md6]
      · rw [zu_same]; show (dB D : Int) + 1 = ((dB D + 1 : Nat) : Int); omega
      · rw [zu_ne (fun z => zmm _ _ z.symm), zu_ne (zff _ (by decide) k8), f7.mf, mf6 k k6 k7]
      · rw [zu_ne (fun z => zmm _ _ z.symm), zu_ne (zff _ (by decide) (by decide)), f7.mf, r66]
      · rw [zu_ne (fun z => zmm _ _ z.symm), zu_ne (zff _ (by decide) (by decide)), f7.mf, r67]
      · rw [zu_ne (fun z => zmm _ _ z.symm), zu_at, f7.mf, mf6 8 (by decide) (by decide)]
  · have c8 : dB D = 2 := by omega
    have et : tBoat B n D p = (.inr (2, xS B n p), D) := by unfold tBoat; rw [if_pos c8]
    rw [et] at hq
    exact b115_17 (c106 (by omega) (fun d' _ => k106 (f := 2) rfl (by decide) hP (fun I1 f1 P1 => b115_22 (hq I1 (xFm.fr f1) P1 (hS.xfr f1) (fun q z => by cases z)))))
theorem k117 {p : Nat} {both : Bool} (hd : 5 ≤ d) (hP : CP I B n (.inl p)) (hA : CA (t_eb t) I D w cl) (hcl : cl ≤ p) (hS : SN (t_eb t) I) (hD : dOk D) (hq : CQ t J B n I Q (tWater B n D both p).1 (tWater B n D both p).2 true) : Go sc d mt_117 0 [vr 805, vi ((both.toNat : Nat) : Int), vn, vn] [] (z_cfg t, I, J) Q := by
  have hs4 := hD.1
  have hpn := hP.le
  refine b117_0 (c98 (by omega) (fun d' _ => k98s (by omega) hP (fun I1 f1 P1 => b117_4 ?_)))
  have P1 : CP I1 B n (.inl (xE B n p)) := P1
  have hS1 : I1 (z_md (t_eb t)) 0 = dS D := by rw [f1.md]; exact hA.1.1
  refine c116 (by omega) (fun d' _ => k116 (o := -1) rfl ⟨by decide, by decide⟩ hS1 hs4 (by omega) P1 (fun I2 va f2 P2 ha ha3 => b117_9 ?_))
  have P2 : CP I2 B n (tWa1 B n D p) := P2
  have hS2 : I2 (z_md (t_eb t)) 0 = dS D := by rw [f2.md]; exact hS1
  refine c116 (by omega) (fun d' _ => k116 (o := (va : Int)) rfl ⟨by omega, by omega⟩ hS2 hs4 (by omega) P2 (fun I3 vb f3 P3 hb hb3 => b117_15 ?_))
  have f13 := (f1.tr f2).tr f3
  have A3 := hA.xfr f13
  have S3 := hS.xfr f13
  have hk3 := P3.k
  have es : (tWater B n D both p).1 = xSho B n (dS D) (va : Int) (tWa1 B n D p) := by
    show xSho B n (dS D) (xV B n (xE B n p) : Int) (tWa1 B n D p) = _
    cases hs : tWa1 B n D p with
    | inr e => rfl
    | inl q1 =>
      have hv := (ha ⟨q1, hs⟩).1
      have hv : va = xV B n (xE B n p) := hv
      rw [hv]
  have P3' : CP I3 B n (tWater B n D both p).1 := by rw [es]; exact P3
  have bad : ∀ e, (tWater B n D both p).1 = .inr e → Q (.inl none) (z_cfg t, I3, J) := fun e he => hq I3 (xFm.fr f13) P3' S3 (fun q z => by rw [he] at z; cases z)
  cases hsw : (tWater B n D both p).1 with
  | inr e =>
    have hf : ¬ I3 805 7 = 0 := by
      rw [hsw] at P3'
      have z7 : I3 805 7 = (e.1 : Int) := P3'.2.2.2.2.2.2.1
      have z9 : 1 ≤ e.1 ∧ e.1 ≤ 5 := P3'.2.2.2.2.2.2.2.2.1
      omega
    exact ⟨hk3.2.2.2.1, fun z => absurd z hf, fun _ => bad e hsw⟩
  | inl q =>
    have hok := tWater_ok hD hsw
    obtain ⟨⟨q1, hq1⟩, hok2, o1, o2, o3⟩ := hok
    have hva : va = xV B n (xE B n p) := (ha ⟨q1, hq1⟩).1
    have es2 := hsw
    rw [es] at es2
    have hvb : vb = xVs B n (tWa1 B n D p) := (hb ⟨q, es2⟩).1
    have hf : I3 805 7 = 0 := by rw [hsw] at P3'; exact P3'.2.2.2.2.1
    have hwa : ∀ i, i < 4 → I3 (z_mf (t_eb t) 11) i = dWa D i := A3.1.2.2.2.2.2.2.2.1
    have hlt : ∀ i, i < 4 → dWa D i < 16 := fun i hi => (hD.2.2.2.2.2.2.2.1 i hi).1
    have sh : ∀ k : Nat, k < 4 → zshl 1 (k : Int) = ((2 ^ k : Nat) : Int) ∧ 2 ^ k < 16 := fun k hk => by
      have h1 : 2 ^ k < 2 ^ 4 := Nat.pow_lt_pow_right (by decide) hk
      have e : zshl 1 (k : Int) = ((1 * 2 ^ k : Nat) : Int) := zshl_n (x := 1) (by omega) (by omega)
      rw [Nat.one_mul] at e
      exact ⟨e, h1⟩
    have ha4 : va < 4 := by omega
    have hb4 : vb < 4 := by omega
    have hab : ¬ va = vb := by rw [hva, hvb]; exact o3
    have hle : aft1 n p (tWater B n D both p).1 := by
      have a2 := xS_r (B := B) hpn.1
      have b2 := xE_r (B := B) hpn.1
      have a0 : aft1 n p (.inl (xE B n p)) := ⟨by omega, b2.2.1⟩
      exact a0.sho.sho
    rw [hsw] at hle
    have done : ∀ (I4 : Nat → Nat → Int), xFm I3 I4 (t_eb t) → I4 85 = I3 85 → I4 805 = I3 805 → (∀ k, ¬ k = 10 → I4 (z_md (t_eb t)) k = I3 (z_md (t_eb t)) k) → I4 (z_md (t_eb t)) 10 = 1 → (∀ k, ¬ k = 11 → I4 (z_mf (t_eb t) k) = I3 (z_mf (t_eb t) k)) → (∀ i, i < 4 → I4 (z_mf (t_eb t) 11) i = (w_add (dWa D) va vb both i : Int)) → Q (.inl none) (z_cfg t, I4, J) := fun I4 F4 c85 c805 md m10 mf r11 => by
      refine hq I4 ((xFm.fr f13).tr F4) (P3'.fr c85 c805) (S3.fr (mf 6 (by decide)) (mf 7 (by decide)) (by rw [mf 14 (by decide)]) (Or.inr m10)) (fun q' z => ?_)
      rw [hsw] at z
      cases z
      rw [hva, hvb] at r11
      exact ⟨cl, Nat.le_trans hcl hle.1, A3.wa md m10 mf r11⟩
    refine ⟨hk3.2.2.2.1, fun _ => ⟨⟨by omega, by omega⟩, fun _ => ⟨⟨by omega, by omega⟩, fun _ => ⟨⟨by omega, by omega⟩, bi both, fun z => ?_, fun z => ⟨⟨by omega, by omega⟩, ?_⟩⟩, fun z => absurd (by omega) z⟩, fun z => absurd (by omega) z⟩, fun z => absurd hf z⟩
    · have eb := bf z
      subst eb
      rw [Int.toNat_natCast, hwa va ha4, (sh vb hb4).1, zor_n (by have := hlt va ha4; omega) (by have := (sh vb hb4).2; omega)]
      refine done _ (xFm.md.tr (xFm.mf (by decide))) ?_ ?_ ?_ ?_ ?_ ?_
      · rw [zu_ne (fun z => (zrg (t_eb t) (k := 11) (by decide)).2.2 z.symm), zu_ne (by have := zmd_or (t_eb t); omega)]
      · rw [zu_ne (fun z => (zrg (t_eb t) (k := 11) (by decide)).2.1 z.symm), zu_ne (by have := zmd_or (t_eb t); omega)]
      · intro k hk; rw [zu_ne (zmm _ _), zu_nk hk]
      · rw [zu_ne (zmm _ _), zu_same]
      · intro k hk; rw [zu_ne (zff _ (by decide) hk), zu_ne (fun z => zmm _ _ z.symm)]
      · intro i hi
        rw [zu_at, zu_ne (fun z => zmm _ _ z.symm)]
        show _ = ((w_one (dWa D) va vb i : Nat) : Int)
        unfold w_one
        by_cases c : i = va
        · rw [if_pos c, c, fup_y]
        · rw [if_neg c, fup_n c]; exact hwa i hi
    · have eb := bt z
      subst eb
      rw [Int.toNat_natCast, Int.toNat_natCast, zu_nk (fun z => hab z.symm), zu_ne (fun z => zmm _ _ z.symm), hwa va ha4, hwa vb hb4, (sh vb hb4).1, (sh va ha4).1, zor_n (by have := hlt va ha4; omega) (by have := (sh vb hb4).2; omega), zor_n (by have := hlt vb hb4; omega) (by have := (sh va ha4).2; omega)]
      refine done _ (xFm.md.tr ((xFm.mf (by decide)).tr (xFm.mf (by decide)))) ?_ ?_ ?_ ?_ ?_ ?_
      · rw [zu_ne (fun z => (zrg (t_eb t) (k := 11) (by decide)).2.2 z.symm), zu_ne (fun z => (zrg (t_eb t) (k := 11) (by decide)).2.2 z.symm), zu_ne (by have := zmd_or (t_eb t); omega)]
      · rw [zu_ne (fun z => (zrg (t_eb t) (k := 11) (by decide)).2.1 z.symm), zu_ne (fun z => (zrg (t_eb t) (k := 11) (by decide)).2.1 z.symm), zu_ne (by have := zmd_or (t_eb t); omega)]
      · intro k hk; rw [zu_ne (zmm _ _), zu_ne (zmm _ _), zu_nk hk]
      · rw [zu_ne (zmm _ _), zu_ne (zmm _ _), zu_same]
      · intro k hk; rw [zu_ne (zff _ (by decide) hk), zu_ne (zff _ (by decide) hk), zu_ne (fun z => zmm _ _ z.symm)]
      · intro i hi
        rw [zu_at, zu_at, zu_ne (fun z => zmm _ _ z.symm)]
        show _ = ((w_one (w_one (dWa D) va vb) vb va i : Nat) : Int)
        unfold w_one
        by_cases c : i = vb
        · rw [if_pos c, c, fup_y, fup_n (fun z => hab z.symm)]
        · rw [if_neg c, fup_n c]
          by_cases c2 : i = va
          · rw [if_pos c2, c2, fup_y]
          · rw [if_neg c2, fup_n c2]; exact hwa i hi
theorem k118 {p : Nat} (hd : 5 ≤ d) (hP : CP I B n (.inl p)) (hA : CA (t_eb t) I D w cl) (hcl : cl ≤ p) (hS : SN (t_eb t) I) (hD : dOk D) (hq : CQ t J B n I Q (tLamp B n D p).1 (tLamp B n D p).2 w) : Go sc d mt_118 0 [vr 805] [] (z_cfg t, I, J) Q := by
  have hs4 := hD.1
  have hpn := hP.le
  have e9 : I (z_md (t_eb t)) 9 = dLamp D := hA.1.2.2.2.1
  have hl := hD.2.2.2.2.1
  refine b118_0 ?_
  rw [e9]
  refine ⟨⟨by omega, by omega⟩, fun c => ?_, fun c => ?_⟩
  · have et : tLamp B n D p = (xSho B n (dS D) (-1) (tLa1 B n p), d_La D (xVs B n (tLa1 B n p))) := by unfold tLamp; rw [if_pos c]
    refine c98 (by omega) (fun d' _ => k98s (by omega) hP (fun I1 f1 P1 => b118_21 ?_))
    refine c114 (by omega) (fun d' _ => k114 (k := 11) rfl (by decide) (by omega) P1 (fun I2 f2 P2 => b118_27 ?_))
    have P2 : CP I2 B n (tLa1 B n p) := P2
    have hS2 : I2 (z_md (t_eb t)) 0 = dS D := by rw [f2.md, f1.md]; exact hA.1.1
    refine c116 (by omega) (fun d' _ => k116 (o := -1) rfl ⟨by decide, by decide⟩ hS2 hs4 (by omega) P2 (fun I3 va f3 P3 ha ha3 => b118_36 ?_))
    have f13 := (f1.tr f2).tr f3
    have A3 := hA.xfr f13
    have S3 := hS.xfr f13
    refine hq _ ((xFm.fr f13).tr xFm.md) ?_ ?_ ?_
    · rw [et]; exact P3.md
    · exact S3.fr (zu_ne (fun z => zmm _ _ z.symm)) (zu_ne (fun z => zmm _ _ z.symm)) (by rw [zu_ne (fun z => zmm _ _ z.symm)]) (by rw [zu_nk (by decide)]; exact S3.2.2)
    · intro q z
      rw [et] at z ⊢
      have z : xSho B n (dS D) (-1) (tLa1 B n p) = .inl q := z
      have h1 := (ha ⟨q, z⟩).1
      subst h1
      have hle : aft1 n p (xSho B n (dS D) (-1) (tLa1 B n p)) := by
        have a2 := xS_r (B := B) hpn.1
        have b2 := xE_r (B := B) hpn.1
        have a0 : aft1 n p (.inl (xE B n p)) := ⟨by omega, b2.2.1⟩
        exact a0.nw.sho
      rw [z] at hle
      exact ⟨cl, Nat.le_trans hcl hle.1, A3.la (fun k hk => zu_nk hk) (zu_same _ _ _ _) (fun k => zu_ne (fun z => zmm _ _ z.symm))⟩
  · have et : tLamp B n D p = (.inr (5, xS B n p), D) := by unfold tLamp; rw [if_neg c]
    rw [et] at hq
    exact c106 (by omega) (fun d' _ => k106 (f := 5) rfl (by decide) hP (fun I1 f1 P1 => b118_16 (hq I1 (xFm.fr f1) P1 (hS.xfr f1) (fun q z => by cases z))))
theorem k119 {p : Nat} (hd : 84 ≤ d) (hP : CP I B n (.inl p)) (hA : CA (t_eb t) I D w cl) (hcl : cl ≤ p) (hS : SN (t_eb t) I) (hD : dOk D) (hq : CQ t J B n I Q (tLaw B n D p).1 (tLaw B n D p).2 w) : Go sc d mt_119 0 [vr 805, vn, vn] [] (z_cfg t, I, J) Q := by
  have hs4 := hD.1
  have hpn := hP.le
  have e12 : I (z_md (t_eb t)) 12 = dL D := hA.1.2.2.2.2.1
  have hl := hD.2.2.2.1
  have h7 := hA.cl7
  refine b119_0 ?_
  rw [e12]
  refine ⟨⟨by omega, by omega⟩, fun c => by omega, fun _ => ⟨fun c => ?_, fun c => ?_⟩⟩
  · have c12 : ¬ dL D = 12 := by omega
    have et : tLaw B n D p = ((tLwS B n D (tLw B n D p)).1, d_L D (tLwS B n D (tLw B n D p)).2 (pvC (gExp B n D 6) (.inl (xE B n p)))) := by unfold tLaw; rw [if_neg c12]
    have hok : ∀ q, (tLaw B n D p).1 = .inl q → _ := fun q z => tLaw_ok hD z
    rw [et] at hq
    refine c98 (by omega) (fun d' _ => k98s (by omega) hP (fun I1 f1 P1 => b119_28 ?_))
    have P1 : CP I1 B n (.inl (xE B n p)) := P1
    have hE := P1.le
    have a2 := xS_r (B := B) hpn.1
    have b2 := xE_r (B := B) hpn.1
    have A1 := hA.xfr f1
    have S1 := hS.xfr f1
    rw [show I1 (z_md (t_eb t)) 16 = (cl : Int) from A1.2.2.1, Int.toNat_natCast]
    refine ⟨⟨by omega, by omega⟩, ?_⟩
    -- the row of starts
    have md2 : z_u I1 (z_mf (t_eb t) 14) (dL D) (cl : Int) (z_md (t_eb t)) = I1 (z_md (t_eb t)) := zu_ne (zmm _ _)
    have mf2 : ∀ k, ¬ k = 14 → z_u I1 (z_mf (t_eb t) 14) (dL D) (cl : Int) (z_mf (t_eb t) k) = I1 (z_mf (t_eb t) k) := fun k hk => zu_ne (zff _ (by decide) hk)
    have F2 : xFm I (z_u I1 (z_mf (t_eb t) 14) (dL D) (cl : Int)) (t_eb t) := (xFm.fr f1).tr (xFm.mf (by decide))
    have L2 : CL (z_u I1 (z_mf (t_eb t) 14) (dL D) (cl : Int)) (t_eb t) D := by
      have h := A1.toL hD
      unfold CL at h ⊢
      rw [md2, mf2 4 (by decide)]
      exact h
    have Z2 : CZ (z_u I1 (z_mf (t_eb t) 14) (dL D) (cl : Int)) (t_eb t) cl := by
      unfold CZ
      rw [md2, A1.2.2.1]
      omega
    refine c120 (by omega) (fun d' _ => k120 d' _ (.inl (xE B n p)) cl [] _ (by omega) (P1.mf (by decide)) Z2 L2 (fun p' z => ?_) (fun I3 f3 P3 Z3 K3 => b119_50 ?_))
    · cases z
      refine ⟨⟨?_, fun i c hc => by cases hc⟩, by show cl + 0 ≤ _; omega⟩
      rw [md2, A1.2.2.1]
      rfl
    · have P3 : CP I3 B n (tLw B n D p) := P3
      have F3 := F2.tr (xFm.fe f3)
      have md3 : ∀ k, ¬ k = 16 → I3 (z_md (t_eb t)) k = I (z_md (t_eb t)) k := fun k hk => by
        rw [f3.2.1 k hk, md2, f1.md]
      have mf3 : ∀ k, ¬ k = 14 → ¬ k = 15 → I3 (z_mf (t_eb t) k) = I (z_mf (t_eb t) k) := fun k h14 h15 => by
        rw [f3.1 _ (by have := zmf_lt (t_eb t) k; omega) (zff _ (by decide) h15) (fun z => zmm _ _ z.symm), mf2 k h14, f1.mf]
      have r14 : ∀ i, I3 (z_mf (t_eb t) 14) i = if i = dL D then (cl : Int) else I (z_mf (t_eb t) 14) i := fun i => by
        rw [f3.1 _ (zrg _ (by decide)).2.1 (zff _ (by decide) (by decide)) (fun z => zmm _ _ z.symm), zu_at, f1.mf]
      have r15 : ∀ i, i < cl → I3 (z_mf (t_eb t) 15) i = I (z_mf (t_eb t) 15) i := fun i hi => by
        rw [f3.2.2.2 i hi, mf2 15 (by decide), f1.mf]
      have S3 : SN (t_eb t) I3 := by
        refine hS.fr (mf3 6 (by decide) (by decide)) (mf3 7 (by decide) (by decide)) ?_ (by rw [md3 10 (by decide)]; exact hS.2.2)
        rw [r14]
        by_cases z : 0 = dL D
        · have g := hA.2.2.2
          rw [← z, hS.2.1] at g
          rw [if_pos z, hS.2.1]
          omega
        · rw [if_neg z]
      have fin : ∀ (I4 : Nat → Nat → Int) (s4 : xT) (sv : Int), xFr I3 I4 → CP I4 B n s4 → (tLwS B n D (tLw B n D p)).1 = s4 → (∀ q, s4 = .inl q → sv = (tLwS B n D (tLw B n D p)).2) → Go sc d mt_119 97 [vr 805, vi (dL D : Int), vi sv] [] (z_cfg t, I4, J) Q := fun I4 s4 sv f4 P4 e4 hsv => by
        have md4 : ∀ k, ¬ k = 16 → I4 (z_md (t_eb t)) k = I (z_md (t_eb t)) k := fun k hk => by rw [f4.md]; exact md3 k hk
        refine b119_97 ?_
        rw [show (dL D : Int) + 1 = ((dL D + 1 : Nat) : Int) by omega, Int.toNat_natCast, Int.toNat_natCast]
        refine ⟨⟨by omega, by omega⟩, ⟨by omega, by omega⟩, hq _ ((F3.tr (xFm.fr f4)).tr (((xFm.mf (by decide)).tr (xFm.mf (by decide))).tr xFm.md)) ?_ ?_ ?_⟩
        · rw [e4]
          exact ((P4.mf (by decide)).mf (by decide)).md
        · refine (S3.xfr f4).fr ?_ ?_ ?_ (by rw [zu_nk (by decide), zu_ne (zmm _ _), zu_ne (zmm _ _)]; exact (S3.xfr f4).2.2)
          · rw [zu_ne (fun z => zmm _ _ z.symm), zu_ne (zff _ (by decide) (by decide)), zu_ne (zff _ (by decide) (by decide))]
          · rw [zu_ne (fun z => zmm _ _ z.symm), zu_ne (zff _ (by decide) (by decide)), zu_ne (zff _ (by decide) (by decide))]
          · rw [zu_ne (fun z => zmm _ _ z.symm), zu_nk (by omega), zu_ne (zff _ (by decide) (by decide))]
        · intro q hq2
          have hq2 : (tLwS B n D (tLw B n D p)).1 = .inl q := hq2
          have hq3 := hq2
          rw [e4] at hq3
          have hs := hsv q hq3
          obtain ⟨-, -, C, q1, g1, g2, g3, g4⟩ := hok q (by rw [et]; exact hq2)
          have gl := GL.exp (B := B) (D := D) 6 _ _ _ hE.1 g1
          have k3 := K3 q1 g2
          have k3 : CK I3 (t_eb t) cl ([] ++ pvC (gExp B n D 6) (.inl (xE B n p))) := k3
          rw [List.nil_append, g4] at k3
          have gq := g3 gl.2
          have hCl : cl + C.length ≤ q := by omega
          have e16 : I4 (z_md (t_eb t)) 16 = ((cl + C.length : Nat) : Int) := by rw [f4.md]; exact k3.1
          rw [g4]
          refine ⟨cl + C.length, hCl, ?_⟩
          show CA (t_eb t) _ (d_L D (tLwS B n D (tLw B n D p)).2 C) w (cl + C.length)
          rw [← hs]
          refine hA.lw (fun k h12 h16 => ?_) ?_ ?_ (fun k h13 h14 h15 => ?_) (fun i => ?_) (fun i => ?_) (fun i hi => ?_) (fun i c hc => ?_) (by omega)
          · rw [zu_nk h12, zu_ne (zmm _ _), zu_ne (zmm _ _), md4 k h16]
          · rw [zu_same]
          · rw [zu_nk (by decide), zu_ne (zmm _ _), zu_ne (zmm _ _)]; exact e16
          · rw [zu_ne (fun z => zmm _ _ z.symm), zu_ne (zff _ (by decide) h14), zu_ne (zff _ (by decide) h13), f4.mf, mf3 k h14 h15]
          · rw [zu_ne (fun z => zmm _ _ z.symm), zu_ne (zff _ (by decide) (by decide)), zu_at, f4.mf, mf3 13 (by decide) (by decide)]
          · rw [zu_ne (fun z => zmm _ _ z.symm), zu_at, zu_ne (zff _ (by decide) (by decide)), f4.mf, r14, e16]
          · rw [zu_ne (fun z => zmm _ _ z.symm), zu_ne (zff _ (by decide) (by decide)), zu_ne (zff _ (by decide) (by decide)), f4.mf]; exact r15 i hi
          · rw [zu_ne (fun z => zmm _ _ z.symm), zu_ne (zff _ (by decide) (by decide)), zu_ne (zff _ (by decide) (by decide)), f4.mf]; exact k3.2 i c hc
      refine c103 (by omega) (fun d' _ => k103 (k := 12) rfl (by decide) (by omega) P3 (fun I4 f4 P4 => b119_58 ?_))
      unfold xTW at P4
      cases h12 : xIsW B n 12 (tLw B n D p) with
      | true =>
        rw [h12, if_pos rfl] at P4
        refine ⟨⟨by decide, by decide⟩, fun z => absurd z (by decide), fun _ => ?_⟩
        have ee : tLwS B n D (tLw B n D p) = (xAdv B n (tLw B n D p), -2) := by unfold tLwS; rw [if_pos h12]
        exact fin I4 _ (-2) f4 P4 (by rw [ee]) (fun q _ => by rw [ee])
      | false =>
        rw [h12, if_neg (by decide)] at P4
        refine ⟨⟨by decide, by decide⟩, fun _ => ?_, fun z => absurd rfl z⟩
        refine c103 (by omega) (fun d' _ => k103 (k := 13) rfl (by decide) (by omega) P4 (fun I5 f5 P5 => b119_73 ?_))
        unfold xTW at P5
        cases h13 : xIsW B n 13 (tLw B n D p) with
        | true =>
          rw [h13, if_pos rfl] at P5
          refine ⟨⟨by decide, by decide⟩, fun z => absurd z (by decide), fun _ => ?_⟩
          have ee : tLwS B n D (tLw B n D p) = (xAdv B n (tLw B n D p), -3) := by unfold tLwS; rw [if_neg (by rw [h12]; decide), if_pos h13]
          exact fin I5 _ (-3) (f4.tr f5) P5 (by rw [ee]) (fun q _ => by rw [ee])
        | false =>
          rw [h13, if_neg (by decide)] at P5
          refine ⟨⟨by decide, by decide⟩, fun _ => ?_, fun z => absurd rfl z⟩
          refine c103 (by omega) (fun d' _ => k103 (k := 11) rfl (by decide) (by omega) P5 (fun I6 f6 P6 => b119_88 ?_))
          unfold xTW at P6
          cases h11 : xIsW B n 11 (tLw B n D p) with
          | false =>
            rw [h11, if_neg (by decide)] at P6
            refine ⟨⟨by decide, by decide⟩, fun _ => ?_, fun z => absurd rfl z⟩
            have ee : tLwS B n D (tLw B n D p) = (tLw B n D p, -1) := by unfold tLwS; rw [if_neg (by rw [h12]; decide), if_neg (by rw [h13]; decide), if_neg (by rw [h11]; decide)]
            exact fin I6 _ (-1) ((f4.tr f5).tr f6) P6 (by rw [ee]) (fun q _ => by rw [ee])
          | true =>
            rw [h11, if_pos rfl] at P6
            refine ⟨⟨by decide, by decide⟩, fun z => absurd z (by decide), fun _ => ?_⟩
            have ee : tLwS B n D (tLw B n D p) = (xSho B n (dS D) (-1) (xAdv B n (tLw B n D p)), (xVs B n (xAdv B n (tLw B n D p)) : Int)) := by unfold tLwS; rw [if_neg (by rw [h12]; decide), if_neg (by rw [h13]; decide), if_pos h11]
            have f46 := (f4.tr f5).tr f6
            have hS6 : I6 (z_md (t_eb t)) 0 = dS D := by rw [f46.md, md3 0 (by decide)]; exact hA.1.1
            refine c116 (by omega) (fun d' _ => k116 (o := -1) rfl ⟨by decide, by decide⟩ hS6 hs4 (by omega) P6 (fun I7 va f7 P7 ha ha3 => b119_96 ?_))
            exact fin I7 _ (va : Int) (f46.tr f7) P7 (by rw [ee]) (fun q z => by rw [ee, (ha ⟨q, z⟩).1])
  · have c12 : dL D = 12 := by omega
    have et : tLaw B n D p = (.inr (2, xS B n p), D) := by unfold tLaw; rw [if_pos c12]
    rw [et] at hq
    exact b119_18 (c106 (by omega) (fun d' _ => k106 (f := 2) rfl (by decide) hP (fun I1 f1 P1 => b119_23 (hq I1 (xFm.fr f1) P1 (hS.xfr f1) (fun q z => by cases z)))))
end
