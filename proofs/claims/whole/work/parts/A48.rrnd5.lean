/-! ===== rounds, the reference: seeksRounds, rounds ===== -/
theorem rE_ok {D : tD} {n m : Nat} (hD : dOk D) (h1 : n < 1024) (h2 : n % 256 ≤ dAll D) (hE : rE D n m) : m < 1024 ∧ m % 256 ≤ dAll D := by
  obtain ⟨f, s, l0, l1, _, e⟩ := hE
  have hf := rLd_le l0
  have hs := rLd_le l1
  have hA := dAll_lt hD
  subst e
  refine ⟨rNx_lt hD h1 hf hs, ?_⟩
  have hp := Nat.two_pow_pos (dT D)
  have hor : f ||| s < 2 ^ dT D := Nat.or_lt_two_pow (by unfold dAll at hf; omega) (by unfold dAll at hs; omega)
  have h8 : f ||| s < 2 ^ 8 := Nat.or_lt_two_pow (by omega) (by omega)
  have e : rNx n f s % 2 ^ 8 = n % 2 ^ 8 ^^^ (f ||| s) := by
    unfold rNx
    rw [Nat.xor_mod_two_pow, Nat.xor_mod_two_pow, Nat.mod_eq_of_lt h8, show (256 : Nat) = 2 ^ 8 from rfl, Nat.mul_mod_left, Nat.xor_zero]
  have e : rNx n f s % 256 = n % 256 ^^^ (f ||| s) := e
  have : n % 256 ^^^ (f ||| s) < 2 ^ dT D := Nat.xor_lt_two_pow (by unfold dAll at h2; omega) hor
  rw [e]
  unfold dAll
  omega
/-- within a pass: depth c, row k -/
def PJ (D : tD) (dp : Nat → Int) (c k : Nat) : Prop := dp (rN0 D) = 0 ∧ (∀ m, ¬ dp m = -1 → m < 1024 ∧ m % 256 ≤ dAll D ∧ ∃ j : Nat, dp m = j ∧ rR D j m ∧ j ≤ c + 1) ∧ (∀ m, 0 ≤ dp m → (dp m < c ∨ (dp m = c ∧ m < k)) → ¬ rGl D m ∧ ∀ m', rE D m m' → 0 ≤ dp m' ∧ dp m' ≤ dp m + 1) ∧ ∀ j, j < c → ∃ m : Nat, dp m = (j : Int)
theorem PJ.bf {D : tD} {dp : Nat → Int} {c k : Nat} (h : PJ D dp c k) : rBF D dp c := by
  refine ⟨h.1, fun n hn => ?_, fun n h1 h2 => ?_⟩
  · obtain ⟨_, _, j, e, hj, _⟩ := h.2.1 n (by omega)
    exact ⟨j, e, hj⟩
  · have := h.2.2.1 n h1 (Or.inl h2)
    exact ⟨this.1, fun m _ hm => this.2 m hm⟩
theorem PJ.le {D : tD} {dp : Nat → Int} {c k : Nat} (h : PJ D dp c k) : c ≤ 1024 := by
  have hc : ∀ j : Nat, ∃ m : Nat, j < c → dp m = (j : Int) := fun j => by
    by_cases z : j < c
    · obtain ⟨m, hm⟩ := h.2.2.2 j z
      exact ⟨m, fun _ => hm⟩
    · exact ⟨0, fun q => absurd q z⟩
  refine inj_le 1024 c (fun j => Classical.choose (hc j)) (fun j hj => ?_) (fun i j hi hj e => ?_)
  · have := Classical.choose_spec (hc j) hj
    exact (h.2.1 _ (by omega)).1
  · have a := Classical.choose_spec (hc i) hi
    have b := Classical.choose_spec (hc j) hj
    have e : Classical.choose (hc i) = Classical.choose (hc j) := e
    rw [e] at a
    omega
theorem PJ.step {D : tD} {dp dp' : Nat → Int} {c k : Nat} (hD : dOk D) (h : PJ D dp c k) (h0 : dShores D (dStart D) = 0) (hk : dp k = c) (hg : ¬ rGl D k) (hG : GX D k ((c : Int) + 1) dp dp') (hm : ∀ m, rE D k m → ¬ dp' m = -1) : PJ D dp' c (k + 1) := by
  obtain ⟨a1, a2, a3, a4⟩ := h
  obtain ⟨k1, k2, j, ej, hj, _⟩ := a2 k (by omega)
  have hjc : j = c := by omega
  subst hjc
  have b2 : ∀ m, ¬ dp' m = -1 → m < 1024 ∧ m % 256 ≤ dAll D ∧ ∃ i : Nat, dp' m = i ∧ rR D i m ∧ i ≤ j + 1 := fun m hm' => by
    by_cases c : dp m = -1
    · have := hG.2 m c hm'
      have ok := rE_ok hD k1 k2 this.2
      exact ⟨ok.1, ok.2, j + 1, by rw [this.1]; omega, ⟨h0, k, hj, this.2⟩, by omega⟩
    · rw [hG.1 m c]
      exact a2 m c
  have old : ∀ m, 0 ≤ dp' m → dp' m ≤ j → dp m = dp' m := fun m h1 h2 => by
    by_cases c : dp m = -1
    · have := hG.2 m c (by omega)
      omega
    · exact (hG.1 m c).symm
  refine ⟨by rw [hG.1 _ (by omega)]; exact a1, b2, fun m h1 h2 => ?_, fun i hi => ?_⟩
  · have e := old m h1 (by omega)
    by_cases z : m = k
    · subst z
      refine ⟨hg, fun m' hE => ?_⟩
      obtain ⟨_, _, i, e1, _, e3⟩ := b2 m' (hm m' hE)
      omega
    · have := a3 m (by omega) (by rw [e]; omega)
      refine ⟨this.1, fun m' hE => ?_⟩
      have g := this.2 m' hE
      rw [hG.1 m' (by omega), ← e]
      exact g
  · obtain ⟨m, e⟩ := a4 i hi
    exact ⟨m, by rw [hG.1 m (by omega)]; exact e⟩
theorem PJ.pass {D : tD} {dp : Nat → Int} {c k : Nat} (h : PJ D dp c k) (hk : ¬ dp k = c) : PJ D dp c (k + 1) := by
  refine ⟨h.1, h.2.1, fun m h1 h2 => h.2.2.1 m h1 ?_, h.2.2.2⟩
  rcases h2 with z | ⟨z, z2⟩
  · exact Or.inl z
  · refine Or.inr ⟨z, ?_⟩
    by_cases q : m = k
    · subst q; exact absurd z hk
    · omega
theorem PJ.next {D : tD} {dp : Nat → Int} {c : Nat} (h : PJ D dp c 1024) (hc : ∃ m : Nat, dp m = (c : Int)) : PJ D dp (c + 1) 0 := by
  refine ⟨h.1, fun m hm => ?_, fun m h1 h2 => ?_, fun j hj => ?_⟩
  · obtain ⟨a, b, j, e1, e2, e3⟩ := h.2.1 m hm
    exact ⟨a, b, j, e1, e2, by omega⟩
  · refine h.2.2.1 m h1 ?_
    have := h.2.1 m (by omega)
    rcases h2 with z | ⟨z, z2⟩
    · by_cases q : dp m < c
      · exact Or.inl q
      · exact Or.inr ⟨by omega, this.1⟩
    · omega
  · by_cases q : j < c
    · exact h.2.2.2 j q
    · have : j = c := by omega
      subst this
      exact hc
theorem PJ.first {D : tD} (hD : dOk D) (hT : rTold D) : PJ D (upI (fun _ => -1) (rN0 D) 0) 0 0 ∧ ∀ m, upI (fun _ => -1) (rN0 D) 0 m ≤ 0 := by
  have hM := CM_start hD hT
  have e2 : upI (fun _ => -1) (rN0 D) 0 (rN0 D) = 0 := by unfold upI; rw [if_pos rfl]
  have ez : ∀ m, ¬ m = rN0 D → upI (fun _ => -1) (rN0 D) 0 m = -1 := fun m hm => by unfold upI; rw [if_neg hm]
  refine ⟨⟨e2, fun m hm => ?_, fun m h1 h2 => ?_, fun j hj => absurd hj (by omega)⟩, fun m => ?_⟩
  · by_cases c : m = rN0 D
    · subst c
      exact ⟨hM.1, hM.2.1, 0, by rw [e2]; rfl, rfl, by omega⟩
    · exact absurd (ez m c) hm
  · rcases h2 with z | ⟨_, z⟩
    · exact absurd z (by omega)
    · exact absurd z (by omega)
  · by_cases c : m = rN0 D
    · rw [c, e2]; exact Int.le_refl _
    · rw [ez m c]; decide
/-- what seeksRounds leaves alone -/
def rFY (I I' : Nat → Nat → Int) : Prop := (∀ a, ¬ a = 2612 → ¬ a = 2644 → ¬ a = 3284 → ¬ a = 2996 → ¬ a = 3028 → ¬ a = 1835 → I' a = I a) ∧ ∀ k, ¬ k = 52 → I' 1835 k = I 1835 k
theorem rFY.tr {I I1 I2 : Nat → Nat → Int} (h : rFY I I1) (h' : rFY I1 I2) : rFY I I2 := ⟨fun a h1 h2 h3 h4 h5 h6 => (h'.1 a h1 h2 h3 h4 h5 h6).trans (h.1 a h1 h2 h3 h4 h5 h6), fun k hk => (h'.2 k hk).trans (h.2 k hk)⟩
theorem rFY.fw {I I' : Nat → Nat → Int} (h : rFW I I') : rFY I I' := ⟨fun a h1 h2 h3 _ _ _ => h a h1 h2 h3, fun k _ => by rw [h 1835 (by decide) (by decide) (by decide)]⟩
theorem rFY.fr {I I' : Nat → Nat → Int} (h : FR I I') : rFY I I' := rFY.fw (rFW.fr h)
section
variable {sc : mS} {d : Nat} {t : zT} {I J : Nat → Nat → Int} {Q : zR → zW → Prop} {D : tD}
theorem k269 (hd : 8 ≤ d) (hV : RV I D (dHo D 0) (dLo D 0)) (hT : rTold D)
    (h : ∀ (I' : Nat → Nat → Int) (a : Int), rFY I I' → RV I' D (dHo D 0) (dLo D 0) → I' 1835 52 = -1 → rA D a → (-1 ≤ a ∧ a ≤ 1024) → Q (.inl (some (vi a))) (z_cfg t, I', J)) : Go sc d mt_269 0 [vr 1835, vn, vn, vn] [] (z_cfg t, I, J) Q := by
  have hD := hV.2.2
  have hB : dB D = 2 := hT.2.1
  obtain ⟨o1, o2, o3⟩ := hD.2.2.2.2.2.2.1 0 (by omega)
  have hM0 := CM_start hD hT
  have hn0 := hM0.1
  have hst := start_ok hD
  have fill : ∀ (m i : Nat) (I1 : Nat → Nat → Int), i + m = 1024 → (∀ a, ¬ a = 3284 → I1 a = I a) → (∀ j, j < i → I1 3284 j = -1) → (∀ (I2 : Nat → Nat → Int), (∀ a, ¬ a = 3284 → I2 a = I a) → (∀ j, j < 1024 → I2 3284 j = -1) → Cl sc d 184 [vr 1835] (z_cfg t, z_u I2 1835 52 (-1), J) (z_k sc d mt_269 false 33 [vr 1835, vi ((1024 : Nat) : Int), vn, vn] [vr 1835, vr 3284] Q)) → Go sc d mt_269 2 [vr 1835, vi (i : Int), vn, vn] [] (z_cfg t, I1, J) Q := by
    intro m
    induction m with
    | zero =>
      intro i I1 hi f1 g1 hq
      have : i = 1024 := by omega
      subst this
      exact b269_2 ⟨⟨by decide, by decide⟩, fun z => absurd z (by decide), fun _ => hq I1 f1 g1⟩
    | succ m ih =>
      intro i I1 hi f1 g1 hq
      refine b269_2 ⟨⟨by omega, by omega⟩, fun _ => ⟨⟨by omega, by omega⟩, ?_⟩, fun z => by omega⟩
      rw [Int.toNat_natCast, show (i : Int) + 1 = ((i + 1 : Nat) : Int) by omega]
      refine ih (i + 1) _ (by omega) (fun a ha => by rw [zu_ne ha]; exact f1 a ha) (fun j hj => ?_) hq
      rw [zu_at]
      by_cases z : j = i
      · rw [if_pos z]
      · rw [if_neg z]; exact g1 j (by omega)
  refine b269_0 (fill 1024 0 I (by omega) (fun _ _ => rfl) (fun j hj => absurd hj (by omega)) (fun I2 f2 g2 => ?_))
  have V2 : RV (z_u I2 1835 52 (-1)) D (dHo D 0) (dLo D 0) := (hV.r3 f2).fld (by decide)
  have F2 : rFY I (z_u I2 1835 52 (-1)) := ⟨fun a _ _ a3 _ _ a6 => by rw [zu_ne a6]; exact f2 a a3, fun k hk => by rw [zu_nk hk, f2 1835 (by decide)]⟩
  refine c184 (by omega) (fun d' _ => k184 V2.1 hD (fun r0 hr0 => b269_36 ?_))
  refine c270 (by omega) (fun d' _ => k270 rfl (by omega) V2.1 hD hr0 hM0 (b269_39 ⟨⟨by omega, by omega⟩, ?_⟩))
  rw [Int.toNat_natCast]
  have V3 : RV (z_u (z_u I2 1835 52 (-1)) 3284 (rN0 D) 0) D (dHo D 0) (dLo D 0) := V2.r3 (fun a ha => zu_ne ha)
  have F3 : rFY I (z_u (z_u I2 1835 52 (-1)) 3284 (rN0 D) 0) := F2.tr ⟨fun a _ _ a3 _ _ _ => zu_ne a3, fun k _ => by rw [zu_ne (by decide)]⟩
  have w3 : z_u (z_u I2 1835 52 (-1)) 3284 (rN0 D) 0 1835 52 = -1 := by rw [zu_ne (by decide), zu_same]
  have P3 : RDp (z_u (z_u I2 1835 52 (-1)) 3284 (rN0 D) 0) (upI (fun _ => -1) (rN0 D) 0) := fun m hm => by
    rw [zu_at]
    unfold upI
    by_cases z : m = rN0 D
    · rw [if_pos z, if_pos z]; exact ⟨rfl, by decide, by decide⟩
    · rw [if_neg z, if_neg z, zu_ne (by decide), g2 m hm]; exact (by decide : (-1 : Int) = -1 ∧ (-1 : Int) ≤ -1 ∧ (-1 : Int) ≤ 2000)
  generalize z_u (z_u I2 1835 52 (-1)) 3284 (rN0 D) 0 = I3 at V3 F3 w3 P3 ⊢
  obtain ⟨J0, J0le⟩ := PJ.first hD hT
  refine c184 (by omega) (fun d' _ => k184 V3.1 hD (fun r1 hr1 => b269_46 ?_))
  refine c251 (by omega) (fun d' _ => k251 rfl (by omega) V3.1 hD hr1 hst (b269_49 ?_))
  have hgoal := hM0.goal hD hT
  cases hgl : dGoal D (dStart D) with
  | true =>
    refine ⟨⟨by decide, by decide⟩, fun z => absurd z (by decide), fun _ => h I3 0 F3 V3 w3 ?_ (by decide)⟩
    exact J0.bf.hit (n := rN0 D) (by decide) (by unfold upI; rw [if_pos rfl]) (hgoal.1 hgl)
  | false =>
    have hng : ¬ rGl D (rN0 D) := fun z => by rw [hgoal.2 z] at hgl; cases hgl
    refine ⟨⟨by decide, by decide⟩, fun _ => ?_, fun z => absurd rfl z⟩
    refine c184 (by omega) (fun d' _ => k184 V3.1 hD (fun r2 hr2 => b269_59 ?_))
    refine c243 (by omega) (fun d' _ => k243a rfl (by omega) V3 hr2 w3 (fun I4 f4 V4 => b269_65 ?_))
    have hlt : dShores D (dStart D) < 2 ^ 12 := orN_lt (fun i _ => dBars_lt hD _ _ _ _)
    have F4 := F3.tr (rFY.fr f4)
    have w4 := FR.w w3 f4
    refine ⟨⟨by omega, by omega⟩, fun c0 => ?_, fun c0 => h I4 (-1) F4 V4 w4 ?_ (by decide)⟩
    · have h0 : dShores D (dStart D) = 0 := by omega
      refine c241 (by omega) (fun d' _ => k241 (by omega) V4.1 hD (by omega) (by omega) (fun I5 f5 hl5 => b269_74 ?_))
      have V5 : RV I5 D (dHo D 0) (dLo D 0) := ⟨V4.1.sets f5, fun S p q l z1 z2 z3 z4 z5 => by rw [f5 2612 (by decide) (by decide)]; exact V4.2.1 S p q l z1 z2 z3 z4 z5, V4.2.2⟩
      have F5 : rFY I I5 := F4.tr ⟨fun a _ _ _ a4 a5 _ => f5 a a4 a5, fun k _ => by rw [f5 1835 (by decide) (by decide)]⟩
      have w5 : I5 1835 52 = -1 := by rw [f5 1835 (by decide) (by decide)]; exact w4
      have P5 : RDp I5 (upI (fun _ => -1) (rN0 D) 0) := by
        have := P3.fr f4
        unfold RDp
        rw [f5 3284 (by decide) (by decide)]
        exact this
      have pass : ∀ (mm c : Nat) (I6 : Nat → Nat → Int) (dp : Nat → Int) (v3 : zV), c + mm = 1026 → rFY I I6 → RV I6 D (dHo D 0) (dLo D 0) → I6 1835 52 = -1 → RDp I6 dp → (∀ b, b < 2 → RT I6 b (fS D (dHo D 0) (dLo D 0) b (dAll D))) → PJ D dp c 0 → (∀ m, dp m ≤ c) → Go sc d mt_269 78 [vr 1835, vi 1, vi (c : Int), v3] [] (z_cfg t, I6, J) Q := by
        intro mm
        induction mm with
        | zero =>
          intro c I6 dp v3 hc f6 V6 w6 P6 l6 hJ hle
          have := hJ.le
          omega
        | succ mm ihp =>
          intro c I6 dp v3 hc f6 V6 w6 P6 l6 hJ hle
          have row : ∀ (m k : Nat) (I7 : Nat → Nat → Int) (dp7 : Nat → Int) (x1 : Int), k + m = 1024 → rFY I I7 → RV I7 D (dHo D 0) (dLo D 0) → I7 1835 52 = -1 → RDp I7 dp7 → (∀ b, b < 2 → RT I7 b (fS D (dHo D 0) (dLo D 0) b (dAll D))) → PJ D dp7 c k → ((x1 = 0 ∧ (∀ m, dp7 m ≤ c) ∧ ∀ m, m < k → ¬ dp7 m = c) ∨ (x1 = 1 ∧ ∃ m : Nat, dp7 m = (c : Int))) → Go sc d mt_269 86 [vr 1835, vi x1, vi (c : Int), vi (k : Int)] [] (z_cfg t, I7, J) Q := by
            intro m
            induction m with
            | zero =>
              intro k I7 dp7 x1 hk f7 V7 w7 P7 l7 J7 hx
              have hk2 : k = 1024 := by omega
              subst hk2
              refine b269_86 ⟨⟨by decide, by decide⟩, fun z => absurd z (by decide), fun _ => ?_⟩
              rw [show (c : Int) + 1 = ((c + 1 : Nat) : Int) by omega]
              rcases hx with ⟨e, h1, h2⟩ | ⟨e, h1⟩
              · subst e
                refine b269_78 ⟨⟨by decide, by decide⟩, fun _ => h I7 (-1) f7 V7 w7 (J7.bf.none (fun n => ?_)) (by decide), fun z => absurd rfl z⟩
                by_cases z : dp7 n = -1
                · omega
                · have a := (J7.2.1 n z).1
                  have b := h1 n
                  have c' := h2 n a
                  omega
              · subst e
                have J8 := J7.next h1
                refine ihp (c + 1) I7 dp7 _ (by omega) f7 V7 w7 P7 l7 J8 (fun m => ?_)
                by_cases z : dp7 m = -1
                · omega
                · obtain ⟨_, _, j, e1, _, e3⟩ := J7.2.1 m z
                  omega
            | succ m ih =>
              intro k I7 dp7 x1 hk f7 V7 w7 P7 l7 J7 hx
              have pk := P7 k (by omega)
              have hcle := J7.le
              refine b269_86 ?_
              rw [Int.toNat_natCast, pk.1]
              refine ⟨⟨by omega, by omega⟩, fun _ => ⟨⟨by omega, by omega⟩, ⟨by omega, by omega⟩, ⟨by omega, by omega⟩, fun ck => ?_, fun ck => b269_134 ?_⟩, fun z => by omega⟩
              · obtain ⟨k1, k2, _⟩ := J7.2.1 k (by omega)
                have hMk := CM_cs (D := D) k1 k2
                have gk := hMk.goal hD hT
                refine c271 (by omega) (fun d' _ => k271 rfl V7.1 hD k1 k2 (fun r3 hr3 => b269_114 ?_))
                refine c251 (by omega) (fun d' _ => k251 rfl (by omega) V7.1 hD hr3 (hMk.st hT) (b269_117 ?_))
                cases hgk : dGoal D (cs k) with
                | true =>
                  refine ⟨⟨by decide, by decide⟩, fun z => absurd z (by decide), fun _ => h I7 c f7 V7 w7 (J7.bf.hit (by omega) ck (gk.1 hgk)) (by omega)⟩
                | false =>
                  have hngk : ¬ rGl D k := fun z => by rw [gk.2 z] at hgk; cases hgk
                  refine ⟨⟨by decide, by decide⟩, fun _ => ?_, fun z => absurd rfl z⟩
                  refine c271 (by omega) (fun d' _ => k271 rfl V7.1 hD k1 k2 (fun r4 hr4 => b269_128 ?_))
                  refine c272 (by omega) (fun d' _ => k272 (n := k) (s := cs k) (dp := dp7) rfl (by omega) V7 w7 hT hr4 hMk P7 (by omega) l7 (fun I8 dp8 f8 V8 P8 G8 m8 => b269_134 ?_))
                  rw [show (k : Int) + 1 = ((k + 1 : Nat) : Int) by omega]
                  refine ih (k + 1) I8 dp8 1 (by omega) (f7.tr (rFY.fw f8)) V8 (by rw [f8 1835 (by decide) (by decide) (by decide)]; exact w7) P8 (fun b hb => (l7 b hb).fw f8) (J7.step hD h0 ck hngk G8 m8) (Or.inr ⟨rfl, k, by rw [G8.1 k (by omega)]; exact ck⟩)
              · rw [show (k : Int) + 1 = ((k + 1 : Nat) : Int) by omega]
                refine ih (k + 1) I7 dp7 x1 (by omega) f7 V7 w7 P7 l7 (J7.pass ck) ?_
                rcases hx with ⟨e, h1, h2⟩ | hx
                · refine Or.inl ⟨e, h1, fun m hm => ?_⟩
                  by_cases z : m = k
                  · rw [z]; exact ck
                  · exact h2 m (by omega)
                · exact Or.inr hx
          refine b269_78 ⟨⟨by decide, by decide⟩, fun z => absurd z (by decide), fun _ => ?_⟩
          exact row 1024 0 I6 dp 0 (by omega) f6 V6 w6 P6 l6 hJ (Or.inl ⟨rfl, hle, fun m hm => absurd hm (by omega)⟩)
      exact pass 1026 0 I5 _ _ (by omega) F5 V5 w5 P5 (fun b hb => hl5 b (by omega)) J0 J0le
    · refine Or.inr ⟨rfl, fun j m hm => ?_⟩
      cases j with
      | zero =>
        have hm : m = rN0 D := hm
        rw [hm]
        exact hng
      | succ j =>
        have hm : dShores D (dStart D) = 0 ∧ ∃ n, rR D j n ∧ rE D n m := hm
        exact absurd hm.1 (by omega)
theorem k268 (hd : 9 ≤ d) (hV : RV I D (dHo D 0) (dLo D 0)) (hk : I 1835 82 = 0 ∨ (rAns D (I 1835 82 - 2) ∧ 1 ≤ I 1835 82 ∧ I 1835 82 ≤ 1026))
    (h : ∀ (I' : Nat → Nat → Int) (a : Int), rFY (z_u I 1835 0 0) (z_u I' 1835 82 (I 1835 82)) → RV I' D (dHo D 0) (dLo D 0) → (I' 1835 52 = -1 ∨ I' 1835 52 = I 1835 52) → (I' 1835 82 = 0 ∨ (rAns D (I' 1835 82 - 2) ∧ 1 ≤ I' 1835 82 ∧ I' 1835 82 ≤ 1026)) → rAns D a → (-2 ≤ a ∧ a ≤ 1024) → Q (.inl (some (vi a))) (z_cfg t, I', J)) : Go sc d mt_268 0 [vr 1835] [] (z_cfg t, I, J) Q := by
  have hD := hV.2.2
  have V1 : RV (z_u I 1835 0 0) D (dHo D 0) (dLo D 0) := hV.f0
  have hR := hV.1
  have hS := hD.1
  have hB := hD.2.2.1
  have fz : rFY (z_u I 1835 0 0) (z_u (z_u I 1835 0 0) 1835 82 (I 1835 82)) := ⟨fun a _ _ _ _ _ a6 => zu_ne a6, fun k _ => by
    rw [zu_at]
    by_cases z : k = 82
    · rw [if_pos z, z, zu_nk (by decide)]
    · rw [if_neg z]⟩
  have e82 : z_u I 1835 0 0 1835 82 = I 1835 82 := zu_nk (by decide)
  have no : ¬ rTold D → Q (.inl (some (vi (-2)))) (z_cfg t, z_u I 1835 0 0, J) := fun hn => h _ (-2) fz V1 (Or.inr (zu_nk (by decide))) (by rw [e82]; exact hk) ⟨fun z => absurd z hn, fun _ => rfl⟩ (by decide)
  unfold rTold at no
  refine b268_0 ?_
  rw [hR.1, hR.2.2.1, hR.2.2.2.2.1]
  refine ⟨⟨by omega, by omega⟩, fun c1 => ⟨⟨by omega, by omega⟩, fun c2 => ?_, fun c2 => no (fun z => c2 (by rw [z.2.1]; rfl))⟩, fun c1 => no (fun z => c1 (by rw [z.1]; rfl))⟩
  have r0 := (hR.2.2.2.2.2.2.1 0 (by omega)).1
  have r1 := (hR.2.2.2.2.2.2.1 1 (by omega)).1
  rw [if_pos rfl] at r0
  rw [if_neg (by decide)] at r1
  obtain ⟨o1, o2, o3⟩ := hD.2.2.2.2.2.2.1 0 (by omega)
  obtain ⟨p1, p2, p3⟩ := hD.2.2.2.2.2.2.1 1 (by omega)
  rw [r0, r1]
  refine ⟨⟨by omega, by omega⟩, fun c3 => no (fun z => by omega), fun c3 => ⟨⟨by omega, by omega⟩, fun c4 => no (fun z => by omega), fun c4 => ⟨lamp_in hD, fun c5 => ?_, fun c5 => no (fun z => c5 z.2.2.1)⟩⟩⟩
  have hT : rTold D := ⟨by omega, by omega, c5, by omega, by omega⟩
  refine ⟨⟨by omega, by omega⟩, fun c6 => ?_, fun c6 => ?_⟩
  · refine c269 (by omega) (fun d' _ => k269 (by omega) V1 hT (fun I' a f V' w' ha hb => b268_65 ?_))
    have e : (2 : Int) + a - 2 = a := by omega
    rw [e]
    refine h _ a ?_ (V'.fld (by decide)) (Or.inl (by rw [zu_nk (by decide)]; exact w')) (Or.inr ?_) ⟨fun _ => ha, fun z => absurd hT z⟩ (by omega)
    · refine ⟨fun b b1 b2 b3 b4 b5 b6 => by rw [zu_ne b6, zu_ne b6]; exact f.1 b b1 b2 b3 b4 b5 b6, fun k hk2 => ?_⟩
      rw [zu_at]
      by_cases z : k = 82
      · rw [if_pos z, z, e82]
      · rw [if_neg z, zu_nk z, f.2 k hk2]
    · rw [zu_same, e]
      exact ⟨⟨fun _ => ha, fun z => absurd hT z⟩, by omega, by omega⟩
  · rcases hk with z | ⟨z1, z2, z3⟩
    · exact absurd z c6
    · exact h _ _ fz V1 (Or.inr (zu_nk (by decide))) (Or.inr (by rw [e82]; exact ⟨z1, z2, z3⟩)) z1 (by omega)
end
