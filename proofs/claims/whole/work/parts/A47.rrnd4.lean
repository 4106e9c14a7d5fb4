/-! ===== rounds, the reference: goesRound ===== -/
section
variable {sc : mS} {d : Nat} {t : zT} {I J : Nat → Nat → Int} {Q : zR → zW → Prop} {D : tD}
theorem k272 {x1 v : Int} {n s r : Nat} {dp : Nat → Int} (e1 : x1 = r) (hd : 7 ≤ d) (hV : RV I D (dHo D 0) (dLo D 0)) (hw : I 1835 52 = -1) (hT : rTold D) (hs : SR s r) (hM : CM D n s) (hp : RDp I dp) (hv : 0 ≤ v ∧ v ≤ 2000) (hl : ∀ b, b < 2 → RT I b (fS D (dHo D 0) (dLo D 0) b (dAll D)))
    (h : ∀ (I' : Nat → Nat → Int) (dp' : Nat → Int), rFW I I' → RV I' D (dHo D 0) (dLo D 0) → RDp I' dp' → GX D n v dp dp' → (∀ m, rE D n m → ¬ dp' m = -1) → Q (.inl none) (z_cfg t, I', J)) : Go sc d mt_272 0 [vr 1835, vi x1, vi v, vn, vn, vn, vn, vn] [] (z_cfg t, I, J) Q := by
  subst e1
  have hD := hV.2.2
  have hA := dAll_lt hD
  have hr := hs.1
  have wk : ∀ I1, rFW I I1 → I1 1835 52 = -1 := fun I1 f1 => by rw [f1 1835 (by decide) (by decide) (by decide)]; exact hw
  /- what boat b alone does -/
  have single : ∀ (b S : Nat) (x5 x6 : Int) (I1 : Nat → Nat → Int) (dp1 : Nat → Int) (rr : Nat → Prop), b < 2 → 1 ≤ S → S ≤ dAll D → rLd D b S → ndiff S (rch D n b) = 0 → ndiff S (lash s (n.testBit (8 + b)).toNat (dT D)) = 0 → rFW I I1 → RV I1 D (dHo D 0) (dLo D 0) → RDp I1 dp1 → GX D n v dp dp1 →
      (∀ (I2 : Nat → Nat → Int) (dp2 : Nat → Int), rFW I I2 → RV I2 D (dHo D 0) (dLo D 0) → RDp I2 dp2 → GX D n v dp dp2 → GX D n v dp1 dp2 → (rP D n (if b = 0 then S else 0) (if b = 0 then 0 else S) → ¬ dp2 (rNx n (if b = 0 then S else 0) (if b = 0 then 0 else S)) = -1) → Go sc d mt_272 123 [vr 1835, vi (r : Int), vi v, vi (b : Int), vi ((1 - (n.testBit (8 + b)).toNat : Nat) : Int), vi x5, vi x6, vi (S : Int)] [] (z_cfg t, I2, J) Q) →
      Go sc d mt_272 88 [vr 1835, vi (r : Int), vi v, vi (b : Int), vi ((1 - (n.testBit (8 + b)).toNat : Nat) : Int), vi x5, vi x6, vi (S : Int)] [vi 0] (z_cfg t, I1, J) Q := by
    intro b S x5 x6 I1 dp1 _ hb hS1 hS2 hld hsr hsub f1 V1 P1 G1 hq
    have hpow : 2 ^ b < 4 := by
      have : b = 0 ∨ b = 1 := by omega
      rcases this with z | z <;> rw [z] <;> decide
    have ez : zshl 1 (b : Int) = ((2 ^ b : Nat) : Int) := by
      have := zshl_n (x := 1) (k := b) (by omega) (by omega)
      rw [Nat.one_mul] at this
      exact this
    refine b272_88 ⟨⟨by decide, by decide⟩, fun _ => ?_, fun z => absurd rfl z⟩
    rw [ez]
    refine c243 (by omega) (fun d' _ => k243 (s := s) (gone := S) (g := 2 ^ b) (lg := true) rfl rfl rfl rfl (by omega) V1 hs (by omega) hpow (wk I1 f1) (Or.inl rfl) (fun I2 f2 V2 => b272_105 ?_))
    rw [kp1]
    have hol : orN (dS D) (rShB D s S (2 ^ b) true) < 2 ^ 12 := orN_lt (fun i _ => dBars_lt hD _ _ _ _)
    have key := hM.bar (gone := S) (g := 2 ^ b) (lg := true) hD hT hpow
    have F2 := f1.tr (rFW.fr f2)
    have P2 := P1.fr f2
    have hb01 : b = 0 ∨ b = 1 := by omega
    have hS0 : ¬ S = 0 := by omega
    have estay : stay (if b = 0 then S else 0) (if b = 0 then 0 else S) = ndiff 3 (2 ^ b) := by
      rcases hb01 with z | z <;> subst z
      · exact stay_f hS0
      · exact stay_s hS0
    have eor : (if b = 0 then S else 0) ||| (if b = 0 then 0 else S) = S := by
      rcases hb01 with z | z <;> subst z
      · exact Nat.or_zero S
      · exact Nat.zero_or S
    have enx : rNx n (if b = 0 then S else 0) (if b = 0 then 0 else S) = (n ^^^ S) ^^^ 2 ^ (8 + b) := by
      rcases hb01 with z | z <;> subst z
      · exact nx_f hS0
      · exact nx_s hS0
    have est3 : ¬ ndiff 3 (2 ^ b) = 3 := by rcases hb01 with z | z <;> subst z <;> decide
    refine ⟨⟨by omega, by omega⟩, fun c => ?_, fun c => ?_⟩
    · have M1 := hM.af (b := b) hD hb hS2 hsub
      refine c249 (by omega) (fun d' _ => k249 (s := s) (b := b) (p := 1 - (n.testBit (8 + b)).toNat) (S := S) rfl rfl rfl rfl V2.1 hD hs hb (by omega) hS2 (fun r1 hr1 => b272_119 ?_))
      rw [← enx] at M1
      have hrp : rBar D (rNx n (if b = 0 then S else 0) (if b = 0 then 0 else S)) (dAll D) 3 = false → rP D n (if b = 0 then S else 0) (if b = 0 then 0 else S) := fun z => by
        refine ⟨?_, ?_, ?_, rOkB_iff.2 ⟨by rw [estay]; exact est3, by rw [estay, eor]; exact key.1 (by omega), z⟩⟩
        · rcases hb01 with z | z <;> subst z
          · exact hsr
          · show ndiff 0 _ = 0
            unfold ndiff
            rw [Nat.zero_and]
            rfl
        · rcases hb01 with z | z <;> subst z
          · show ndiff 0 _ = 0
            unfold ndiff
            rw [Nat.zero_and]
            rfl
          · exact hsr
        · rcases hb01 with z | z <;> subst z
          · exact Nat.zero_and S
          · exact Nat.and_zero S
      refine c273 (by omega) (fun d' _ => k273 rfl (by omega) V2 (wk I2 F2) hT hr1 M1 P2 hv (fun c5 c6 I4 f4 V4 P4 => ?_) (fun c5 I4 f4 V4 P4 => ?_))
      · have hE : rE D n (rNx n (if b = 0 then S else 0) (if b = 0 then 0 else S)) := by
          refine ⟨_, _, ?_, ?_, hrp c5, rfl⟩
          · rcases hb01 with z | z <;> subst z
            · exact hld
            · exact Or.inl rfl
          · rcases hb01 with z | z <;> subst z
            · exact Or.inl rfl
            · exact hld
        have g := GX.one (v := v) c6 hE
        exact hq I4 _ (F2.tr f4) V4 P4 (G1.tr g) g (fun _ => by unfold upI; rw [if_pos rfl]; omega)
      · refine hq I4 dp1 (F2.tr f4) V4 P4 G1 GX.rf (fun hr => ?_)
        rcases c5 with c5 | c5
        · exact absurd (rOkB_iff.1 hr.2.2.2).2.2 c5
        · exact c5
    · refine hq I2 dp1 F2 V2 P2 G1 GX.rf (fun hr => ?_)
      have := (rOkB_iff.1 hr.2.2.2).2.1
      rw [estay, eor] at this
      exact absurd (key.2 this) (by omega)
  /- what is through: boat b, row i -/
  have main : ∀ (b : Nat) (TH : Nat → Nat → Nat → Prop) (I0 : Nat → Nat → Int) (dp0 : Nat → Int) (v4 v5 v6 v7 : zV), b < 2 → rFW I I0 → RV I0 D (dHo D 0) (dLo D 0) → RDp I0 dp0 → GX D n v dp dp0 →
      (∀ i S f g, (fS D (dHo D 0) (dLo D 0) b (dAll D))[i]? = some S → TH (i + 1) f g → TH i f g ∨ (b = 0 ∧ f = S) ∨ (b = 1 ∧ f = 0 ∧ g = S)) →
      (∀ f g, TH 0 f g → rLd D 0 f → rLd D 1 g → rP D n f g → ¬ dp0 (rNx n f g) = -1) →
      (∀ (I2 : Nat → Nat → Int) (dp2 : Nat → Int) (v4 v5 v6 v7 : zV) , rFW I I2 → RV I2 D (dHo D 0) (dLo D 0) → RDp I2 dp2 → GX D n v dp dp2 → GX D n v dp0 dp2 → (dFlow D (n.testBit (8 + b)).toNat (1 - (n.testBit (8 + b)).toNat) = true → ∀ f g, TH (fS D (dHo D 0) (dLo D 0) b (dAll D)).length f g → rLd D 0 f → rLd D 1 g → rP D n f g → ¬ dp2 (rNx n f g) = -1) → Go sc d mt_272 2 [vr 1835, vi (r : Int), vi v, vi ((b + 1 : Nat) : Int), v4, v5, v6, v7] [] (z_cfg t, I2, J) Q) →
      Go sc d mt_272 2 [vr 1835, vi (r : Int), vi v, vi (b : Int), v4, v5, v6, v7] [] (z_cfg t, I0, J) Q := by
    intro b TH I0 dp0 v4 v5 v6 v7 hb f0 V0 P0 G0 hTH h0 hq
    have hbt := Bool.toNat_le (n.testBit (8 + b))
    have hlb := hl b hb
    refine b272_2 ⟨⟨by omega, by omega⟩, fun _ => ?_, fun z => by omega⟩
    refine c244 (by omega) (fun d' _ => k244 (b := b) rfl rfl hr hb (b272_13 ?_))
    rw [hM.dg hs hb, show (1 : Int) - (((n.testBit (8 + b)).toNat : Nat) : Int) = ((1 - (n.testBit (8 + b)).toNat : Nat) : Int) by omega]
    refine c237 (by omega) (fun d' _ => k237 (i := (n.testBit (8 + b)).toNat) (j := 1 - (n.testBit (8 + b)).toNat) (by omega) rfl (by omega) (by omega) V0.1 (b272_26 ?_))
    cases hfw : dFlow D (n.testBit (8 + b)).toNat (1 - (n.testBit (8 + b)).toNat) with
    | false =>
      refine ⟨⟨by decide, by decide⟩, fun _ => b272_143 ?_, fun z => absurd rfl z⟩
      rw [show (b : Int) + 1 = ((b + 1 : Nat) : Int) by omega]
      exact hq I0 dp0 _ _ _ _ f0 V0 P0 G0 GX.rf (fun z => by rw [hfw] at z; cases z)
    | true =>
      have hrc := rch_on hD hM hfw
      refine ⟨⟨by decide, by decide⟩, fun z => absurd z (by decide), fun _ => ?_⟩
      refine c245 (by omega) (fun d' _ => k245 (p := (n.testBit (8 + b)).toNat) rfl (by omega) V0.1 hD hs (by omega) (b272_41 ?_))
      have hll := rch_lt hD n b
      rw [← hrc]
      have loop : ∀ (m i : Nat) (I1 : Nat → Nat → Int) (dp1 : Nat → Int) (v7 : zV), i + m = (fS D (dHo D 0) (dLo D 0) b (dAll D)).length → rFW I I1 → RV I1 D (dHo D 0) (dLo D 0) → RDp I1 dp1 → GX D n v dp dp1 → GX D n v dp0 dp1 → (∀ f g, TH i f g → rLd D 0 f → rLd D 1 g → rP D n f g → ¬ dp1 (rNx n f g) = -1) →
          Go sc d mt_272 46 [vr 1835, vi (r : Int), vi v, vi (b : Int), vi ((1 - (n.testBit (8 + b)).toNat : Nat) : Int), vi ((rch D n b : Nat) : Int), vi (i : Int), v7] [] (z_cfg t, I1, J) Q := by
        intro m
        induction m with
        | zero =>
          intro i I1 dp1 v7 hi f1 V1 P1 G1 G01 dn
          have hlen := fS_len D (dHo D 0) (dLo D 0) b (dAll D)
          have : i = (fS D (dHo D 0) (dLo D 0) b (dAll D)).length := by omega
          refine b272_46 ?_
          rw [Int.toNat_natCast, (hlb.fw f1).1]
          refine ⟨⟨by omega, by omega⟩, ⟨by omega, by omega⟩, ⟨by omega, by omega⟩, fun z => by omega, fun _ => b272_143 ?_⟩
          rw [show (b : Int) + 1 = ((b + 1 : Nat) : Int) by omega]
          exact hq I1 dp1 _ _ _ _ f1 V1 P1 G1 G01 (fun _ f g hf => dn f g (by rw [this]; exact hf))
        | succ m ih =>
          intro i I1 dp1 v7 hi f1 V1 P1 G1 G01 dn
          have hlen := fS_len D (dHo D 0) (dLo D 0) b (dAll D)
          obtain ⟨S, hS⟩ : ∃ S, (fS D (dHo D 0) (dLo D 0) b (dAll D))[i]? = some S := ⟨_, List.getElem?_eq_getElem (by omega)⟩
          have hSm := fS_mem.1 (List.mem_of_getElem? hS)
          have eS : I1 3028 (256 * b + i) = (S : Int) := (hlb.fw f1).2 i S hS
          have next : ∀ (I2 : Nat → Nat → Int) (dp2 : Nat → Int), rFW I I2 → RV I2 D (dHo D 0) (dLo D 0) → RDp I2 dp2 → GX D n v dp dp2 → GX D n v dp1 dp2 → (∀ f g, (b = 0 ∧ f = S) ∨ (b = 1 ∧ f = 0 ∧ g = S) → rLd D 0 f → rLd D 1 g → rP D n f g → ¬ dp2 (rNx n f g) = -1) → Go sc d mt_272 137 [vr 1835, vi (r : Int), vi v, vi (b : Int), vi ((1 - (n.testBit (8 + b)).toNat : Nat) : Int), vi ((rch D n b : Nat) : Int), vi (i : Int), vi (S : Int)] [] (z_cfg t, I2, J) Q := by
            intro I2 dp2 f2 V2 P2 G2 G12 hqq
            refine b272_137 ?_
            rw [show (i : Int) + 1 = ((i + 1 : Nat) : Int) by omega]
            refine ih (i + 1) I2 dp2 _ (by omega) f2 V2 P2 G2 (G01.tr G12) (fun f g hf l0 l1 hr => ?_)
            rcases hTH i S f g hS hf with z | z
            · exact G12.ne (dn f g z l0 l1 hr)
            · exact hqq f g z l0 l1 hr
          have zero0 : ∀ f g, (b = 0 ∧ f = S) ∨ (b = 1 ∧ f = 0 ∧ g = S) → rP D n f g → ndiff S (rch D n b) = 0 := fun f g hz hr => by
            rcases hz with ⟨z1, z2⟩ | ⟨z1, z2, z3⟩
            · rw [z1, ← z2]; exact hr.1
            · rw [z1, ← z3]; exact hr.2.1
          refine b272_46 ?_
          rw [Int.toNat_natCast, (hlb.fw f1).1, show (256 * (b : Int) + (i : Int)).toNat = 256 * b + i by omega, eS, zandn_n (by omega) (by omega)]
          refine ⟨⟨by omega, by omega⟩, ⟨by omega, by omega⟩, ⟨by omega, by omega⟩, fun _ => ⟨⟨by omega, by omega⟩, fun c1 => ?_, fun c1 => ?_⟩, fun z => by omega⟩
          · have hsr : ndiff S (rch D n b) = 0 := by omega
            have hsub : ndiff S (lash s (n.testBit (8 + b)).toNat (dT D)) = 0 := by rw [← hrc]; exact hsr
            refine c248 (by omega) (fun d' _ => k248 (S := S) rfl (by omega) V1 hSm.1.2 (wk I1 f1) (Or.inl rfl) (fun I2 f2 V2 => ?_))
            rw [kp1, dAlong_0 hT]
            have hbl := dBars_lt hD S (dS D) 1 0
            have F2 := f1.tr (rFW.fr f2)
            have P2 := P1.fr f2
            by_cases c3 : dBars D S (dS D) 1 0 = 0
            · have hld : rLd D b S := Or.inr (rLs_mem.2 ⟨hSm.1, hSm.2, c3⟩)
              rw [c3]
              refine single b S _ _ I2 dp1 (fun _ => True) hb hSm.1.1 hSm.1.2 hld hsr hsub F2 V2 P2 G1 (fun I3 dp3 f3 V3 P3 G3 G13 hone => b272_123 ⟨⟨by omega, by omega⟩, fun cb => ?_, fun cb => ?_⟩)
              · have hb0 : b = 0 := by omega
                subst hb0
                refine c274 (by omega) (fun d' _ => k274 (n := n) (s := s) (f := S) (dp := dp3) rfl rfl rfl (by omega) V3 (wk I3 f3) hT hs hM P3 hv ((hl 1 (by decide)).fw f3) (by omega) hld hsub hsr (fun I4 dp4 f4 V4 P4 G4 hboth => ?_))
                refine next I4 dp4 (f3.tr f4) V4 P4 (G3.tr G4) (G13.tr G4) (fun f g hz l0 l1 hr => ?_)
                rcases hz with ⟨_, z2⟩ | ⟨z1, _⟩
                · subst z2
                  by_cases cg : g = 0
                  · subst cg
                    exact G4.ne (hone hr)
                  · exact hboth g cg l1 hr
                · exact absurd z1 (by decide)
              · have hb1 : b = 1 := by omega
                subst hb1
                refine next I3 dp3 f3 V3 P3 G3 G13 (fun f g hz l0 l1 hr => ?_)
                rcases hz with ⟨z1, _⟩ | ⟨_, z2, z3⟩
                · exact absurd z1 (by decide)
                · subst z2 z3
                  exact hone hr
            · refine b272_88 ⟨⟨by omega, by omega⟩, fun z => absurd z (by omega), fun _ => next I2 dp1 F2 V2 P2 G1 GX.rf (fun f g hz l0 l1 hr => ?_)⟩
              rcases hz with ⟨z1, z2⟩ | ⟨z1, z2, z3⟩
              · rw [z2] at l0
                rcases l0 with z | z
                · omega
                · exact absurd (rLs_mem.1 z).2.2 c3
              · rw [z3] at l1
                rcases l1 with z | z
                · omega
                · exact absurd (rLs_mem.1 z).2.2 c3
          · exact next I1 dp1 f1 V1 P1 G1 GX.rf (fun f g hz l0 l1 hr => absurd (zero0 f g hz hr) (by omega))
      exact loop _ 0 I0 dp0 _ (Nat.zero_add _) f0 V0 P0 G0 GX.rf h0
  refine b272_0 ?_
  refine main 0 (fun i f g => ∃ i' : Nat, i' < i ∧ (fS D (dHo D 0) (dLo D 0) 0 (dAll D))[i']? = some f) I dp _ _ _ _ (by decide) (rFW.rf I) hV hp GX.rf (fun i S f g hS hf => ?_) (fun f g hf => ?_) (fun I2 dp2 v4 v5 v6 v7 f2 V2 P2 G2 G02 d2 => ?_)
  · obtain ⟨i', h1, h2⟩ := hf
    by_cases c : i' < i
    · exact Or.inl ⟨i', c, h2⟩
    · have : i' = i := by omega
      subst this
      rw [hS] at h2
      cases h2
      exact Or.inr (Or.inl ⟨rfl, rfl⟩)
  · obtain ⟨i', h1, _⟩ := hf
    exact absurd h1 (by omega)
  · have D2 : ∀ f g, ¬ f = 0 → rLd D 0 f → rLd D 1 g → rP D n f g → ¬ dp2 (rNx n f g) = -1 := fun f g hf l0 l1 hr => by
      cases hfw : dFlow D (n.testBit (8 + 0)).toNat (1 - (n.testBit (8 + 0)).toNat) with
      | false =>
        have := hr.1
        rw [rch_off hfw] at this
        exact absurd (ndiff_z this) hf
      | true =>
        rcases l0 with z | z
        · exact absurd z hf
        · have hm := rLs_mem.1 z
          obtain ⟨i', hi'⟩ := List.mem_iff_getElem?.1 (fS_mem.2 ⟨hm.1, hm.2.1⟩)
          exact d2 hfw f g ⟨i', (List.getElem?_eq_some_iff.mp hi').1, hi'⟩ (Or.inr z) l1 hr
    refine main 1 (fun i f g => ¬ f = 0 ∨ ∃ i' : Nat, i' < i ∧ f = 0 ∧ (fS D (dHo D 0) (dLo D 0) 1 (dAll D))[i']? = some g) I2 dp2 _ _ _ _ (by decide) f2 V2 P2 G2 (fun i S f g hS hf => ?_) (fun f g hf => ?_) (fun I3 dp3 v4 v5 v6 v7 f3 V3 P3 G3 G23 d3 => ?_)
    · rcases hf with z | ⟨i', h1, h0, h2⟩
      · exact Or.inl (Or.inl z)
      · by_cases c : i' < i
        · exact Or.inl (Or.inr ⟨i', c, h0, h2⟩)
        · have : i' = i := by omega
          subst this
          rw [hS] at h2
          cases h2
          exact Or.inr (Or.inr ⟨rfl, h0, rfl⟩)
    · rcases hf with z | ⟨i', h1, _⟩
      · exact D2 f g z
      · exact absurd h1 (by omega)
    · refine b272_2 ⟨⟨by decide, by decide⟩, fun z => absurd z (by decide), fun _ => h I3 dp3 f3 V3 P3 G3 (fun m hE => ?_)⟩
      obtain ⟨f, g, l0, l1, hr, e⟩ := hE
      rw [e]
      by_cases cf : f = 0
      · subst cf
        have hg : ¬ g = 0 := fun z => by
          subst z
          exact (rOkB_iff.1 hr.2.2.2).1 rfl
        cases hfw : dFlow D (n.testBit (8 + 1)).toNat (1 - (n.testBit (8 + 1)).toNat) with
        | false =>
          have := hr.2.1
          rw [rch_off hfw] at this
          exact absurd (ndiff_z this) hg
        | true =>
          rcases l1 with z | z
          · exact absurd z hg
          · have hm := rLs_mem.1 z
            obtain ⟨i', hi'⟩ := List.mem_iff_getElem?.1 (fS_mem.2 ⟨hm.1, hm.2.1⟩)
            exact d3 hfw 0 g (Or.inr ⟨i', (List.getElem?_eq_some_iff.mp hi').1, rfl, hi'⟩) l0 (Or.inr z) hr
      · exact G23.ne (D2 f g cf l0 l1 hr)
end
