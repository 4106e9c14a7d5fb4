/-! ===== a text's clauses, the reference: boat, water, lamp, law, a clause ===== -/
section
variable {sc : mS} {d : Nat} {t : zT} {I J I' J' : Nat → Nat → Int} {Q : zR → zW → Prop} {B : Nat → Nat} {n : Nat} {D : tD} {w : Bool} {top : Nat}
theorem k205 {p : Nat} (hd : 5 ≤ d) (hP : RP I J B n (.inl p)) (hA : RA I D w top) (ht : 2 * top ≤ 3 * p) (hD : dOk D) (hq : RCQ t B n I J Q 3 (tBoat B n D p).1 (tBoat B n D p).2 w) : Go sc d mt_205 0 [vr 1835, vn, vn, vn] [] (z_cfg t, I, J) Q := by
  have h8 := hD.2.2.1
  have hs4 := hD.1
  have hpn := hP.n7
  have e31 := hA.1.2.2.1
  refine b205_0 ?_
  rw [e31]
  refine ⟨⟨by omega, by omega⟩, fun c => ?_, fun c => ?_⟩
  · have c8 : dB D = 2 := by omega
    have et : tBoat B n D p = (.inr (2, xS B n p), D) := by unfold tBoat; rw [if_pos c8]
    rw [et] at hq
    refine c199 (by omega) (fun d' _ => k199 (f := 2) rfl (by decide) hP (fun I1 f1 P1 => b205_13 ?_))
    exact c198 (by omega) (fun d' _ => k198 P1 (b205_17 ⟨xgi _, fun _ => hq I1 J (zFm.y f1) P1 (fun q z => by cases z), fun z => absurd rfl z⟩))
  · have c8 : ¬ dB D = 2 := by omega
    have et : tBoat B n D p = (xSho B n (dS D) (-1) (tBo3 B n p), d_B D (xVs B n (tBo1 B n p)) (xVs B n (tBo2 B n p)) (xVs B n (tBo3 B n p))) := by unfold tBoat; rw [if_neg c8]
    rw [et] at hq
    refine b205_13 (c198 (by omega) (fun d' _ => k198 hP (b205_17 ⟨xgi _, fun z => absurd z (xgn _), fun _ => ?_⟩)))
    refine c190 (by omega) (fun d' _ => k190s (by omega) hP (fun I1 J1 f1 P1 => b205_25 ?_))
    refine c204 (by omega) (fun d' _ => k204 (k := 9) rfl (by decide) (by omega) P1 (fun I2 J2 f2 P2 => b205_31 ?_))
    have P2 : RP I2 J2 B n (tBo1 B n p) := P2
    refine c197 (by omega) (fun d' _ => k197 (lo := 1) (hi := 8) rfl rfl (by omega) (by omega) (by omega) P2 (fun I3 J3 vh f3 P3 hvh => b205_38 ?_))
    refine c204 (by omega) (fun d' _ => k204 (k := 10) rfl (by decide) (by omega) P3 (fun I4 J4 f4 P4 => b205_45 ?_))
    have P4 : RP I4 J4 B n (tBo2 B n p) := P4
    refine c197 (by omega) (fun d' _ => k197 (lo := 0) (hi := 999) rfl rfl (by omega) (by omega) (by omega) P4 (fun I5 J5 vl f5 P5 hvl => b205_53 ?_))
    refine c204 (by omega) (fun d' _ => k204 (k := 11) rfl (by decide) (by omega) P5 (fun I6 J6 f6 P6 => b205_60 ?_))
    have P6 : RP I6 J6 B n (tBo3 B n p) := P6
    have f16 := ((((f1.tr f2).tr f3).tr f4).tr f5).tr f6
    have A6 := hA.y f16
    refine c206 (by omega) (fun d' _ => k206 (o := -1) rfl ⟨by decide, by decide⟩ A6.1.1 hs4 (by omega) P6 (fun I7 J7 va f7 P7 hva hva9 => b205_65 ?_))
    have f17 := f16.tr f7
    refine c198 (by omega) (fun d' _ => k198 P7 (b205_70 ?_))
    cases hs : xSho B n (dS D) (-1) (tBo3 B n p) with
    | inr e =>
      rw [hs] at P7 hq
      exact ⟨xgi _, fun _ => hq I7 J7 (zFm.y f17) P7 (fun q z => by cases z), fun z => absurd rfl z⟩
    | inl q =>
      have A7 := hA.y f17
      have e7 := A7.1.2.2.1
      have ea := hva ⟨q, hs⟩
      obtain ⟨q3, e3⟩ := xSho_g hs
      obtain ⟨q2, e2, -⟩ := xNW_i (s := xNum B n 0 999 (tBo2 B n p)) e3
      have el := hvl ⟨q2, e2⟩
      obtain ⟨q1, e1⟩ := xNum_g e2
      obtain ⟨q0, e0, -⟩ := xNW_i (s := xNum B n 1 8 (tBo1 B n p)) e1
      have eh := hvh ⟨q0, e0⟩
      subst ea el eh
      have hle : aft1 n p (xSho B n (dS D) (-1) (tBo3 B n p)) := by
        have a0 : aft1 n p (.inl (xE B n p)) := xE_le hpn.1
        exact aft1.sho ((((a0.nw).num).nw).num.nw)
      rw [hs] at hle
      have hpq : p ≤ q := hle.1
      rw [e7, Int.toNat_natCast, show (dB D : Int) + 1 = ((dB D + 1 : Nat) : Int) by omega]
      rw [hs] at hq P7
      refine ⟨xgi _, fun z => absurd z (xgn _), fun _ => ⟨⟨by omega, by omega⟩, hq _ J7 ((zFm.y f17).tr ((((zFm.u (by decide)).tr (zFm.u (by decide))).tr (zFm.u (by decide))).tr (zFm.k (by decide)))) ?_ (fun q' z => ?_)⟩⟩
      · exact (((P7.a (by decide)).a (by decide)).a (by decide)).k (by decide)
      · cases z
        exact ⟨top, by omega, A7.bo⟩
theorem k207 {p : Nat} {both : Bool} (hd : 5 ≤ d) (hP : RP I J B n (.inl p)) (hA : RA I D w top) (ht : 2 * top ≤ 3 * p) (hD : dOk D) (hq : RCQ t B n I J Q 3 (tWater B n D both p).1 (tWater B n D both p).2 true) : Go sc d mt_207 0 [vr 1835, vi ((both.toNat : Nat) : Int), vn, vn] [] (z_cfg t, I, J) Q := by
  have hs4 := hD.1
  have hpn := hP.n7
  refine b207_0 (c190 (by omega) (fun d' _ => k190s (by omega) hP (fun I1 J1 f1 P1 => b207_4 ?_)))
  have A1 := hA.y f1
  refine c206 (by omega) (fun d' _ => k206 (o := -1) rfl ⟨by decide, by decide⟩ A1.1.1 hs4 (by omega) P1 (fun I2 J2 va f2 P2 hva hva9 => b207_9 ?_))
  have P2 : RP I2 J2 B n (tWa1 B n D p) := P2
  have A2 := A1.y f2
  refine c206 (by omega) (fun d' _ => k206 (o := (va : Int)) rfl ⟨by omega, by omega⟩ A2.1.1 hs4 (by omega) P2 (fun I3 J3 vb f3 P3 hvb hvb9 => b207_15 ?_))
  have f13 := (f1.tr f2).tr f3
  have es : (tWater B n D both p).1 = xSho B n (dS D) (va : Int) (tWa1 B n D p) := by
    show xSho B n (dS D) (xV B n (xE B n p) : Int) (tWa1 B n D p) = _
    cases hs : tWa1 B n D p with
    | inr e => rfl
    | inl q1 =>
      have hv : va = xV B n (xE B n p) := hva ⟨q1, hs⟩
      rw [hv]
  refine c198 (by omega) (fun d' _ => k198 P3 (b207_20 ?_))
  rw [← es] at P3 hvb ⊢
  cases hs : (tWater B n D both p).1 with
  | inr e =>
    rw [hs] at P3 hq
    exact ⟨xgi _, fun _ => hq I3 J3 (zFm.y f13) P3 (fun q z => by cases z), fun z => absurd rfl z⟩
  | inl q =>
    obtain ⟨⟨q1, hq1⟩, hok2, o1, o2, o3⟩ := tWater_ok hD hs
    have ea : va = xV B n (xE B n p) := hva ⟨q1, hq1⟩
    have eb : vb = xVs B n (tWa1 B n D p) := hvb ⟨q, hs⟩
    have A3 := hA.y f13
    have ha4 : va < 4 := by omega
    have hb4 : vb < 4 := by omega
    have hab : ¬ va = vb := by rw [ea, eb]; exact o3
    have hle : aft1 n p (tWater B n D both p).1 := by
      have a0 : aft1 n p (.inl (xE B n p)) := xE_le hpn.1
      exact a0.sho.sho
    rw [hs] at hle
    have hpq : p ≤ q := hle.1
    rw [hs] at hq P3
    have eD : (tWater B n D both p).2 = d_W D (w_add (dWa D) va vb both) := by rw [ea, eb]; rfl
    rw [eD] at hq
    have r0 := A3.2.2.2.1
    have one : znz 1 = 1 := znz_b true
    rw [one, show 4 * (va : Int) + (vb : Int) = ((4 * va + vb : Nat) : Int) by omega, show 4 * (vb : Int) + (va : Int) = ((4 * vb + va : Nat) : Int) by omega, Int.toNat_natCast, Int.toNat_natCast]
    refine ⟨xgi _, fun z => absurd z (xgn _), fun _ => ⟨⟨by omega, by omega⟩, bi both, fun z => ?_, fun z => ⟨⟨by omega, by omega⟩, ?_⟩⟩⟩
    · have e0 := bf z
      subst e0
      refine hq _ J3 ((zFm.y f13).tr ((zFm.k (by decide)).tr (zFm.u (by decide)))) ((P3.k (by decide)).a (by decide)) (fun q' z => ?_)
      cases z
      refine ⟨top, by omega, A3.wa (fun k hk => by rw [zu_ne (by decide), zu_nk hk]) (by rw [zu_ne (by decide), zu_same]) (fun a h1 h2 => by rw [zu_ne h2, zu_ne h1]) (fun i j hi hj => ?_)⟩
      rw [zu_at, zu_ne (by decide), r0 i j hi hj]
      show _ = ((((w_one (dWa D) va vb i).testBit j).toNat : Nat) : Int)
      rw [w_one_t]
      by_cases c : 4 * i + j = 4 * va + vb
      · rw [if_pos c, decide_eq_true (by omega), Bool.or_true]; rfl
      · rw [if_neg c, decide_eq_false (by omega), Bool.or_false]
    · have e0 := bt z
      subst e0
      refine hq _ J3 ((zFm.y f13).tr (((zFm.k (by decide)).tr (zFm.u (by decide))).tr (zFm.u (by decide)))) (((P3.k (by decide)).a (by decide)).a (by decide)) (fun q' z => ?_)
      cases z
      refine ⟨top, by omega, A3.wa (fun k hk => by rw [zu_ne (by decide), zu_ne (by decide), zu_nk hk]) (by rw [zu_ne (by decide), zu_ne (by decide), zu_same]) (fun a h1 h2 => by rw [zu_ne h2, zu_ne h2, zu_ne h1]) (fun i j hi hj => ?_)⟩
      rw [zu_at, zu_at, zu_ne (by decide), r0 i j hi hj]
      show _ = ((((w_one (w_one (dWa D) va vb) vb va i).testBit j).toNat : Nat) : Int)
      rw [w_one_t, w_one_t]
      by_cases c : 4 * i + j = 4 * vb + va
      · rw [if_pos c, decide_eq_true (p := i = vb ∧ j = va) (by omega), Bool.or_true]; rfl
      · rw [if_neg c, decide_eq_false (p := i = vb ∧ j = va) (by omega), Bool.or_false]
        by_cases c2 : 4 * i + j = 4 * va + vb
        · rw [if_pos c2, decide_eq_true (by omega), Bool.or_true]; rfl
        · rw [if_neg c2, decide_eq_false (by omega), Bool.or_false]
theorem k208 {p : Nat} (hd : 5 ≤ d) (hP : RP I J B n (.inl p)) (hA : RA I D w top) (ht : 2 * top ≤ 3 * p) (hD : dOk D) (hq : RCQ t B n I J Q 3 (tLamp B n D p).1 (tLamp B n D p).2 w) : Go sc d mt_208 0 [vr 1835, vn] [] (z_cfg t, I, J) Q := by
  have hs4 := hD.1
  have hpn := hP.n7
  have e33 := hA.1.2.2.2.2.1
  have hl := hD.2.2.2.2.1
  refine b208_0 ?_
  rw [e33]
  refine ⟨⟨by omega, by omega⟩, fun c => ?_, fun c => ?_⟩
  · have et : tLamp B n D p = (xSho B n (dS D) (-1) (tLa1 B n p), d_La D (xVs B n (tLa1 B n p))) := by unfold tLamp; rw [if_pos c]
    rw [et] at hq
    refine b208_13 (c198 (by omega) (fun d' _ => k198 hP (b208_17 ⟨xgi _, fun z => absurd z (xgn _), fun _ => ?_⟩)))
    refine c190 (by omega) (fun d' _ => k190s (by omega) hP (fun I1 J1 f1 P1 => b208_25 ?_))
    refine c204 (by omega) (fun d' _ => k204 (k := 11) rfl (by decide) (by omega) P1 (fun I2 J2 f2 P2 => b208_31 ?_))
    have P2 : RP I2 J2 B n (tLa1 B n p) := P2
    have A2 := hA.y (f1.tr f2)
    refine c206 (by omega) (fun d' _ => k206 (o := -1) rfl ⟨by decide, by decide⟩ A2.1.1 hs4 (by omega) P2 (fun I3 J3 va f3 P3 hva hva9 => b208_36 ?_))
    have f13 := (f1.tr f2).tr f3
    refine c198 (by omega) (fun d' _ => k198 P3 (b208_41 ?_))
    cases hs : xSho B n (dS D) (-1) (tLa1 B n p) with
    | inr e =>
      rw [hs] at P3 hq
      exact ⟨xgi _, fun _ => hq I3 J3 (zFm.y f13) P3 (fun q z => by cases z), fun z => absurd rfl z⟩
    | inl q =>
      have ea := hva ⟨q, hs⟩
      subst ea
      have hle : aft1 n p (xSho B n (dS D) (-1) (tLa1 B n p)) := by
        have a0 : aft1 n p (.inl (xE B n p)) := xE_le hpn.1
        exact a0.nw.sho
      rw [hs] at hle
      have hpq : p ≤ q := hle.1
      rw [hs] at hq P3
      refine ⟨xgi _, fun z => absurd z (xgn _), fun _ => hq _ J3 ((zFm.y f13).tr (zFm.k (by decide))) (P3.k (by decide)) (fun q' z => ?_)⟩
      cases z
      exact ⟨top, by omega, (hA.y f13).la⟩
  · have et : tLamp B n D p = (.inr (5, xS B n p), D) := by unfold tLamp; rw [if_neg c]
    rw [et] at hq
    refine c199 (by omega) (fun d' _ => k199 (f := 5) rfl (by decide) hP (fun I1 f1 P1 => b208_13 ?_))
    exact c198 (by omega) (fun d' _ => k198 P1 (b208_17 ⟨xgi _, fun _ => hq I1 J (zFm.y f1) P1 (fun q z => by cases z), fun z => absurd rfl z⟩))
theorem k209 {p : Nat} (hd : 10 ≤ d) (hP : RP I J B n (.inl p)) (hA : RA I D w top) (ht : 2 * top ≤ 3 * p) (hD : dOk D) (hq : RCQ t B n I J Q 3 (tLaw B n D p).1 (tLaw B n D p).2 w) : Go sc d mt_209 0 [vr 1835, vn, vn, vn] [] (z_cfg t, I, J) Q := by
  have hs4 := hD.1
  have hpn := hP.n7
  have e32 := hA.1.2.2.2.1
  have hl := hD.2.2.2.1
  refine b209_0 ?_
  rw [e32]
  refine ⟨⟨by omega, by omega⟩, fun c => ?_, fun c => ?_⟩
  · have c12 : dL D = 12 := by omega
    have et : tLaw B n D p = (.inr (2, xS B n p), D) := by unfold tLaw; rw [if_pos c12]
    rw [et] at hq
    refine c199 (by omega) (fun d' _ => k199 (f := 2) rfl (by decide) hP (fun I1 f1 P1 => b209_14 ?_))
    exact c198 (by omega) (fun d' _ => k198 P1 (b209_18 ⟨xgi _, fun _ => hq I1 J (zFm.y f1) P1 (fun q z => by cases z), fun z => absurd rfl z⟩))
  · have c12 : ¬ dL D = 12 := by omega
    have et : tLaw B n D p = ((tLwS B n D (tLw B n D p)).1, d_L D (tLwS B n D (tLw B n D p)).2 (pvC (gExp B n D 6) (.inl (xE B n p)))) := by unfold tLaw; rw [if_neg c12]
    rw [et] at hq
    refine b209_14 (c198 (by omega) (fun d' _ => k198 hP (b209_18 ⟨xgi _, fun z => absurd z (xgn _), fun _ => ?_⟩)))
    refine c190 (by omega) (fun d' _ => k190s (by omega) hP (fun I1 J1 f1 P1 => b209_26 ?_))
    have P1 : RP I1 J1 B n (.inl (xE B n p)) := P1
    have hE := xE_le (B := B) hpn.1
    have A1 := hA.y f1
    -- a fault from here on
    have flt : ∀ (e : Nat × Nat) (I2 J2 : Nat → Nat → Int) (x1 x2 x3 : Int), (tLwS B n D (tLw B n D p)).1 = .inr e → zFm I J I2 J2 → RP I2 J2 B n (.inr e) → Go sc d mt_209 89 [vr 1835, vi x1, vi x2, vi x3] [] (z_cfg t, I2, J2) Q := fun e I2 J2 x1 x2 x3 he F2 P2 => by
      rw [he] at hq
      exact b209_89 (c198 (by omega) (fun d' _ => k198 P2 (b209_93 ⟨xgi _, fun _ => hq I2 J2 F2 P2 (fun q z => by cases z), fun z => absurd rfl z⟩)))
    refine c210 (by omega) (fun d' _ => k210 (base := top) (D := D) (by omega) P1 (A1.toL hD) A1.1.2.2.2.2.2.1 (by omega) (fun e ee I2 J2 P2 F2 => b209_30 ?_) (fun C q1 ee I2 J2 P2 F2 g34 gC gb => b209_30 ?_))
    · have es : tLw B n D p = .inr e := (pvS_n ee).1
      refine c194 (by omega) (fun d' _ => k194 (by omega) P2 (fun r hr _ => b209_37 ?_))
      refine c198 (by omega) (fun d' _ => k198 P2 (b209_42 ⟨xgi _, fun _ => ?_, fun z => absurd rfl z⟩))
      exact flt e I2 J2 _ _ _ (by rw [es]; rfl) ((zFm.y f1).tr (zFm.f F2)) P2
    · have es := pvS_y ee
      have es1 : tLw B n D p = .inl q1 := es.1
      have gl := GL.exp (B := B) (D := D) 6 _ _ _ hE.2 ee
      rw [es.2] at hq
      have F02 := (zFm.y f1).tr (zFm.f F2)
      have e32' : I2 1835 32 = dL D := (F2.2.1 32 (by decide) (by decide) (by decide) (by decide) (by decide) (by decide)).trans A1.1.2.2.2.1
      have e29' : I2 1835 29 = dS D := (F2.2.1 29 (by decide) (by decide) (by decide) (by decide) (by decide) (by decide)).trans A1.1.1
      rw [es1] at hq flt
      -- the end
      have fin : ∀ (I3 J3 : Nat → Nat → Int) (sv x3 : Int), yF I2 J2 I3 J3 → RP I3 J3 B n (tLwS B n D (.inl q1)).1 → (∀ q, (tLwS B n D (.inl q1)).1 = .inl q → sv = (tLwS B n D (.inl q1)).2) → Go sc d mt_209 89 [vr 1835, vi (top : Int), vi sv, vi x3] [] (z_cfg t, I3, J3) Q := fun I3 J3 sv x3 f3 P3 hsv => by
        cases hs : (tLwS B n D (.inl q1)).1 with
        | inr e =>
          rw [hs] at P3
          exact flt e I3 J3 _ _ _ hs (F02.tr (zFm.y f3)) P3
        | inl q =>
          have ev := hsv q hs
          have hok := (tLwS_ok hs).1
          obtain ⟨p', ep, hp'⟩ := hok
          cases ep
          have hq1 := hp' gl.2
          have e32'' : I3 1835 32 = dL D := (f3.2.1 32 (by decide) (by decide) (by decide)).trans e32'
          refine b209_89 (c198 (by omega) (fun d' _ => k198 P3 (b209_93 ?_)))
          rw [e32'', Int.toNat_natCast, show (dL D : Int) + 1 = ((dL D + 1 : Nat) : Int) by omega, hs]
          rw [hs] at P3 hq
          rw [← ev] at hq
          refine ⟨xgi _, fun z => absurd z (xgn _), fun _ => ⟨⟨by omega, by omega⟩, hq _ J3 ((F02.tr (zFm.y f3)).tr (((zFm.u (by decide)).tr (zFm.u (by decide))).tr (zFm.k (by decide)))) ?_ (fun q' z => ?_)⟩⟩
          · exact ((P3.a (by decide)).a (by decide)).k (by decide)
          · cases z
            refine ⟨top + (C.flatMap encR).length + 1, by omega, A1.lw (fun k h32 h34 hk => ?_) ?_ ?_ (fun a ha => ?_) (fun i => ?_) (fun i => ?_) (fun i hi => ?_) ?_ (Nat.le_refl _) (by omega)⟩
            · rw [zu_nk h32, zu_ne (by decide), zu_ne (by decide), f3.2.1 k (by omega) (by omega) (by omega), F2.2.1 k (by omega) (by omega) (by omega) h34 (by omega) (by omega)]
            · rw [zu_same]
            · rw [zu_nk (by decide), zu_ne (by decide), zu_ne (by decide), f3.2.1 34 (by decide) (by decide) (by decide)]; exact g34
            · rw [zu_ne (by omega), zu_ne (by omega), zu_ne (by omega), f3.1 a (by omega), F2.1 a (by omega) (by omega) (by omega) (by omega)]
            · rw [zu_ne (by decide), zu_ne (by decide), zu_at, f3.1 2420 (by decide), F2.1 2420 (by decide) (by decide) (by decide) (by decide)]
            · rw [zu_ne (by decide), zu_at, zu_ne (by decide), f3.1 2452 (by decide), F2.1 2452 (by decide) (by decide) (by decide) (by decide)]
            · rw [zu_ne (by decide), zu_ne (by decide), zu_ne (by decide), f3.1 2484 (by decide)]; exact F2.2.2.1 i hi
            · rw [zu_ne (by decide), zu_ne (by decide), zu_ne (by decide), f3.1 2484 (by decide)]; exact gC
      refine c194 (by omega) (fun d' _ => k194 (by omega) P2 (fun r hr hw => b209_37 ?_))
      have hw := hw ⟨q1, rfl⟩
      have hw : ∀ k : Nat, k < 21 → (r = k ↔ xIsW B n k (.inl q1) = true) := hw
      have nope : (¬ r = 11) → (¬ r = 12) → (¬ r = 13) → Go sc d mt_209 89 [vr 1835, vi (top : Int), vi (-1), vi r] [] (z_cfg t, I2, J2) Q := fun z1 z2 z3 => by
        have n1 : ¬ xIsW B n 11 (.inl q1) = true := fun z => z1 ((hw 11 (by decide)).2 z)
        have n2 : ¬ xIsW B n 12 (.inl q1) = true := fun z => z2 ((hw 12 (by decide)).2 z)
        have n3 : ¬ xIsW B n 13 (.inl q1) = true := fun z => z3 ((hw 13 (by decide)).2 z)
        have ew : tLwS B n D (.inl q1) = (.inl q1, -1) := by unfold tLwS; rw [if_neg n2, if_neg n3, if_neg n1]
        exact fin I2 J2 (-1) r (yF.rf _ _) (by rw [ew]; exact P2) (fun q _ => by rw [ew])
      refine c198 (by omega) (fun d' _ => k198 P2 (b209_42 ⟨xgi _, fun z => absurd z (xgn _), fun _ => ⟨⟨by omega, by omega⟩, fun z => nope (by omega) (by omega) (by omega), fun z1 => ⟨fun z => nope (by omega) (by omega) (by omega), fun z2 => ?_⟩⟩⟩))
      refine c190 (by omega) (fun d' _ => k190s (by omega) P2 (fun I3 J3 f3 P3 => b209_61 ⟨⟨by omega, by omega⟩, fun r12 => b209_88 ?_, fun r12 => ⟨fun r13 => b209_88 ?_, fun r13 => ?_⟩⟩))
      · have w12 := (hw 12 (by decide)).1 r12
        have ew : tLwS B n D (.inl q1) = (xAdv B n (.inl q1), -2) := by unfold tLwS; rw [if_pos w12]
        exact fin I3 J3 (-2) r f3 (by rw [ew]; exact P3) (fun q _ => by rw [ew])
      · have w13 := (hw 13 (by decide)).1 r13
        have n12 : ¬ xIsW B n 12 (.inl q1) = true := fun z => r12 ((hw 12 (by decide)).2 z)
        have ew : tLwS B n D (.inl q1) = (xAdv B n (.inl q1), -3) := by unfold tLwS; rw [if_neg n12, if_pos w13]
        exact fin I3 J3 (-3) r f3 (by rw [ew]; exact P3) (fun q _ => by rw [ew])
      · have n12 : ¬ xIsW B n 12 (.inl q1) = true := fun z => r12 ((hw 12 (by decide)).2 z)
        have n13 : ¬ xIsW B n 13 (.inl q1) = true := fun z => r13 ((hw 13 (by decide)).2 z)
        have w11 := (hw 11 (by decide)).1 (by omega)
        have ew : tLwS B n D (.inl q1) = (xSho B n (dS D) (-1) (xAdv B n (.inl q1)), (xVs B n (xAdv B n (.inl q1)) : Int)) := by unfold tLwS; rw [if_neg n12, if_neg n13, if_pos w11]
        have e29'' : I3 1835 29 = dS D := (f3.2.1 29 (by decide) (by decide) (by decide)).trans e29'
        refine c206 (by omega) (fun d' _ => k206 (o := -1) rfl ⟨by decide, by decide⟩ e29'' hs4 (by omega) P3 (fun I4 J4 va f4 P4 hva hva9 => b209_88 ?_))
        exact fin I4 J4 (va : Int) r (f3.tr f4) (by rw [ew]; exact P4) (fun q z => by rw [ew]; rw [ew] at z; rw [hva ⟨q, z⟩])
theorem k201 {p : Nat} (hd : 12 ≤ d) (hP : RP I J B n (.inl p)) (hA : RA I D w top) (ht : 2 * top ≤ 3 * p) (hD : dOk D) (hq : RCQ t B n I J Q 0 (tCl B n D w p).1 (tCl B n D w p).2.1 (tCl B n D w p).2.2) : Go sc d mt_201 0 [vr 1835, vn] [] (z_cfg t, I, J) Q := by
  have hpn := hP.n7
  -- the clause's end
  have e96 : ∀ (s : xT) (D' : tD) (w' : Bool) (x1 : Int), tCla B n D w p = (s, D', w') → ∀ (I1 J1 : Nat → Nat → Int), zFm I J I1 J1 → RP I1 J1 B n s → (∀ q, s = .inl q → ∃ top, 2 * top ≤ 3 * q + 3 ∧ RA I1 D' w' top) → Go sc d mt_201 96 [vr 1835, vi x1] [] (z_cfg t, I1, J1) Q := fun s D' w' x1 e I1 J1 F1 P1 h1 => by
    have et : tCl B n D w p = (xNG B n 59 s, D', w') := by unfold tCl; rw [e]
    rw [et] at hq
    refine b201_96 (c198 (by omega) (fun d' _ => k198 P1 (b201_100 ?_)))
    have stop : ∀ (e : Nat × Nat) (I2 : Nat → Nat → Int), xNG B n 59 s = .inr e → yF I1 J1 I2 J1 → RP I2 J1 B n (.inr e) → Go sc d mt_201 117 [vr 1835, vi x1] [] (z_cfg t, I2, J1) Q := fun e I2 he f2 P2 => by
      have hq : RCQ t B n I J Q 0 (xNG B n 59 s) D' w' := hq
      rw [he] at hq
      exact b201_117 (c198 (by omega) (fun d' _ => k198 P2 (b201_121 ⟨xgi _, fun _ => hq I2 J1 (F1.tr (zFm.y f2)) P2 (fun q z => by cases z), fun z => absurd rfl z⟩)))
    cases s with
    | inr e0 => exact ⟨xgi _, fun _ => stop e0 I1 rfl (yF.rf _ _) P1, fun z => absurd rfl z⟩
    | inl q1 =>
      refine ⟨xgi _, fun z => absurd z (xgn _), fun _ => ?_⟩
      refine c200 (by omega) (fun d' _ => k200 (c := 59) rfl (by decide) P1 (fun b hb => b201_109 ?_))
      have hb := hb ⟨q1, rfl⟩
      cases b with
      | false =>
        have es : xNG B n 59 (.inl q1) = .inr (1, xS B n q1) := by unfold xNG; rw [if_neg (by rw [← hb]; decide)]; rfl
        refine ⟨⟨by decide, by decide⟩, fun _ => ?_, fun z => absurd rfl z⟩
        exact c199 (by omega) (fun d' _ => k199 (f := 1) rfl (by decide) P1 (fun I2 f2 P2 => stop _ I2 es f2 P2))
      | true =>
        have es : xNG B n 59 (.inl q1) = .inl (xE B n q1) := by unfold xNG; rw [if_pos hb.symm]; rfl
        refine ⟨⟨by decide, by decide⟩, fun z => absurd z (by decide), fun _ => ?_⟩
        refine b201_117 (c198 (by omega) (fun d' _ => k198 P1 (b201_121 ⟨xgi _, fun z => absurd z (xgn _), fun _ => ?_⟩)))
        refine c190 (by omega) (fun d' _ => k190s (by omega) P1 (fun I2 J2 f2 P2 => b201_128 ?_))
        have hq : RCQ t B n I J Q 0 (xNG B n 59 (.inl q1)) D' w' := hq
        rw [es] at hq
        have hE := xE_gt P1.n7.1 (xIsG_k hb.symm)
        refine hq I2 J2 (F1.tr (zFm.y f2)) P2 (fun q z => ?_)
        cases z
        obtain ⟨top1, l1, A1⟩ := h1 q1 rfl
        exact ⟨top1, by omega, A1.y f2⟩
  refine b201_0 (c194 (by omega) (fun d' _ => k194 (by omega) hP (fun r hr hw => b201_4 ?_)))
  have hw := hw ⟨p, rfl⟩
  have hw : ∀ k : Nat, k < 21 → (r = k ↔ xW B n p k = true) := hw
  have nw : ∀ k : Nat, k < 21 → ¬ r = k → ¬ xW B n p k = true := fun k hk z z2 => z ((hw k hk).2 z2)
  have none : (r < 1 ∨ 6 < r) → Go sc d mt_201 16 [vr 1835, vi r] [] (z_cfg t, I, J) Q := fun z => by
    have e : tCla B n D w p = (.inr (1, xS B n p), D, w) := by unfold tCla; rw [if_neg (nw 1 (by decide) (by omega)), if_neg (nw 2 (by decide) (by omega)), if_neg (nw 3 (by decide) (by omega)), if_neg (nw 4 (by decide) (by omega)), if_neg (nw 5 (by decide) (by omega)), if_neg (nw 6 (by decide) (by omega))]
    have et : tCl B n D w p = (.inr (1, xS B n p), D, w) := by unfold tCl; rw [e]; rfl
    rw [et] at hq
    refine b201_16 (c199 (by omega) (fun d' _ => k199 (f := 1) rfl (by decide) hP (fun I1 f1 P1 => b201_21 ?_)))
    exact c198 (by omega) (fun d' _ => k198 P1 (b201_25 ⟨xgi _, fun _ => hq I1 J (zFm.y f1) P1 (fun q z => by cases z), fun z => absurd rfl z⟩))
  refine ⟨⟨by omega, by omega⟩, fun z => none (Or.inl z), fun z1 => ⟨fun z => none (Or.inr z), fun z2 => ?_⟩⟩
  refine b201_21 (c198 (by omega) (fun d' _ => k198 hP (b201_25 ⟨xgi _, fun z => absurd z (xgn _), fun _ => ⟨⟨by omega, by omega⟩, fun r1 => ?_, fun r1 => ⟨fun r2 => ?_, fun r2 => ⟨fun r3 => ?_, fun r3 => ⟨fun r4 => ?_, fun r4 => ⟨fun r5 => ?_, fun r5 => ?_⟩⟩⟩⟩⟩⟩)))
  · have e : tCla B n D w p = ((tThing B n D p).1, (tThing B n D p).2, w) := by unfold tCla; rw [if_pos ((hw 1 (by decide)).1 r1)]
    exact c202 (by omega) (fun d' _ => k202 (by omega) hP hA ht hD (fun I1 J1 F1 P1 g1 => b201_38 (e96 _ _ _ _ e I1 J1 F1 P1 g1)))
  · have e : tCla B n D w p = ((tBoat B n D p).1, (tBoat B n D p).2, w) := by unfold tCla; rw [if_neg (nw 1 (by decide) r1), if_pos ((hw 2 (by decide)).1 r2)]
    exact c205 (by omega) (fun d' _ => k205 (by omega) hP hA ht hD (fun I1 J1 F1 P1 g1 => b201_50 (e96 _ _ _ _ e I1 J1 F1 P1 g1)))
  · have e : tCla B n D w p = ((tWater B n D true p).1, (tWater B n D true p).2, true) := by unfold tCla; rw [if_neg (nw 1 (by decide) r1), if_neg (nw 2 (by decide) r2), if_pos ((hw 3 (by decide)).1 r3)]
    refine b201_63 ⟨⟨by omega, by omega⟩, fun _ => b201_74 ?_, fun z => absurd r3 z⟩
    exact c207 (by omega) (fun d' _ => k207 (both := true) (by omega) hP hA ht hD (fun I1 J1 F1 P1 g1 => b201_77 (e96 _ _ _ _ e I1 J1 F1 P1 g1)))
  · have e : tCla B n D w p = ((tWater B n D false p).1, (tWater B n D false p).2, true) := by unfold tCla; rw [if_neg (nw 1 (by decide) r1), if_neg (nw 2 (by decide) r2), if_neg (nw 3 (by decide) r3), if_pos ((hw 4 (by decide)).1 r4)]
    refine b201_63 ⟨⟨by omega, by omega⟩, fun z => absurd z r3, fun _ => b201_74 ?_⟩
    exact c207 (by omega) (fun d' _ => k207 (both := false) (by omega) hP hA ht hD (fun I1 J1 F1 P1 g1 => b201_77 (e96 _ _ _ _ e I1 J1 F1 P1 g1)))
  · have e : tCla B n D w p = ((tLamp B n D p).1, (tLamp B n D p).2, w) := by unfold tCla; rw [if_neg (nw 1 (by decide) r1), if_neg (nw 2 (by decide) r2), if_neg (nw 3 (by decide) r3), if_neg (nw 4 (by decide) r4), if_pos ((hw 5 (by decide)).1 r5)]
    exact c208 (by omega) (fun d' _ => k208 (by omega) hP hA ht hD (fun I1 J1 F1 P1 g1 => b201_89 (e96 _ _ _ _ e I1 J1 F1 P1 g1)))
  · have e : tCla B n D w p = ((tLaw B n D p).1, (tLaw B n D p).2, w) := by unfold tCla; rw [if_neg (nw 1 (by decide) r1), if_neg (nw 2 (by decide) r2), if_neg (nw 3 (by decide) r3), if_neg (nw 4 (by decide) r4), if_neg (nw 5 (by decide) r5), if_pos ((hw 6 (by decide)).1 (by omega))]
    exact c209 (by omega) (fun d' _ => k209 (by omega) hP hA ht hD (fun I1 J1 F1 P1 g1 => e96 _ _ _ _ e I1 J1 F1 P1 g1))
end
