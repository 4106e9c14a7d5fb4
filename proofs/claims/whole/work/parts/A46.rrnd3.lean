/-! ===== rounds, the reference: goesBoth, goesRound ===== -/
theorem rOkB_iff {D : tD} {n f s : Nat} : rOkB D n f s = true ↔ ¬ stay f s = 3 ∧ rBar D n (ndiff (dAll D) (f ||| s)) (stay f s) = false ∧ rBar D (rNx n f s) (dAll D) 3 = false := by
  unfold rOkB
  rw [Bool.and_eq_true, Bool.and_eq_true, Bool.not_eq_true', Bool.not_eq_true', Bool.not_eq_true', decide_eq_false_iff_not]
theorem rch_on {D : tD} {n s b : Nat} (hD : dOk D) (h : CM D n s) (hf : dFlow D (n.testBit (8 + b)).toNat (1 - (n.testBit (8 + b)).toNat) = true) : rch D n b = lash s (n.testBit (8 + b)).toNat (dT D) := by
  unfold rch
  rw [if_pos hf, h.lb hD]
theorem rch_off {D : tD} {n b : Nat} (hf : dFlow D (n.testBit (8 + b)).toNat (1 - (n.testBit (8 + b)).toNat) = false) : rch D n b = 0 := by
  unfold rch
  rw [if_neg (by rw [hf]; decide)]
theorem ndiff_z {x : Nat} (h : ndiff x 0 = 0) : x = 0 := by rw [ndiff_0] at h; exact h
/-- depths grow by what one round from n leads to -/
def GX (D : tD) (n : Nat) (v : Int) (dp dp' : Nat → Int) : Prop := (∀ m, ¬ dp m = -1 → dp' m = dp m) ∧ ∀ m, dp m = -1 → ¬ dp' m = -1 → dp' m = v ∧ rE D n m
theorem GX.rf {D : tD} {n : Nat} {v : Int} {dp : Nat → Int} : GX D n v dp dp := ⟨fun _ _ => rfl, fun m h1 h2 => absurd h1 h2⟩
theorem GX.tr {D : tD} {n : Nat} {v : Int} {dp dp1 dp2 : Nat → Int} (h : GX D n v dp dp1) (h' : GX D n v dp1 dp2) : GX D n v dp dp2 := by
  refine ⟨fun m hm => ?_, fun m h1 h2 => ?_⟩
  · have := h.1 m hm
    exact (h'.1 m (by rw [this]; exact hm)).trans this
  · by_cases c : dp1 m = -1
    · exact h'.2 m c h2
    · rw [h'.1 m c]
      exact h.2 m h1 c
theorem GX.one {D : tD} {n m : Nat} {v : Int} {dp : Nat → Int} (hm : dp m = -1) (hE : rE D n m) : GX D n v dp (upI dp m v) := by
  refine ⟨fun y hy => ?_, fun y h1 h2 => ?_⟩
  · unfold upI
    rw [if_neg (fun z => hy (by rw [z]; exact hm))]
  · by_cases z : y = m
    · subst z
      exact ⟨by unfold upI; rw [if_pos rfl], hE⟩
    · unfold upI at h2
      rw [if_neg z] at h2
      exact absurd h1 h2
theorem GX.ne {D : tD} {n m : Nat} {v : Int} {dp dp' : Nat → Int} (h : GX D n v dp dp') (hm : ¬ dp m = -1) : ¬ dp' m = -1 := by rw [h.1 m hm]; exact hm
theorem fS_mem {D : tD} {b S : Nat} : S ∈ fS D (dHo D 0) (dLo D 0) b (dAll D) ↔ (1 ≤ S ∧ S ≤ dAll D) ∧ dFits D S (dHo D b) (dLo D b) = true := by
  have e1 : rHo D (dHo D 0) b = dHo D b := by unfold rHo; split; (rename_i z; rw [z]); rfl
  have e2 : rLo D (dLo D 0) b = dLo D b := by unfold rLo; split; (rename_i z; rw [z]); rfl
  unfold fS
  rw [List.mem_filter, List.mem_range'_1, e1, e2]
  constructor
  · intro ⟨h1, h2⟩
    exact ⟨⟨h1.1, by omega⟩, h2⟩
  · intro ⟨h1, h2⟩
    exact ⟨⟨h1.1, by omega⟩, h2⟩
theorem dAlong_0 {D : tD} (hT : rTold D) : dAlong D = 0 := by unfold dAlong; rw [if_pos hT.2.2.1]
section
variable {sc : mS} {d : Nat} {t : zT} {I J : Nat → Nat → Int} {Q : zR → zW → Prop} {D : tD}
theorem RT.fw {I' : Nat → Nat → Int} {b : Nat} {l : List Nat} (h : RT I b l) (f : rFW I I') : RT I' b l := by
  unfold RT
  rw [f 2996 (by decide) (by decide) (by decide), f 3028 (by decide) (by decide) (by decide)]
  exact h
theorem k274 {x1 x2 x3 v : Int} {n s r f : Nat} {dp : Nat → Int} (e1 : x1 = r) (e2 : x2 = ((1 - (n.testBit (8 + 0)).toNat : Nat) : Int)) (e3 : x3 = f) (hd : 6 ≤ d) (hV : RV I D (dHo D 0) (dLo D 0)) (hw : I 1835 52 = -1) (hT : rTold D) (hs : SR s r) (hM : CM D n s) (hp : RDp I dp) (hv : 0 ≤ v ∧ v ≤ 2000) (hl : RT I 1 (fS D (dHo D 0) (dLo D 0) 1 (dAll D))) (hf0 : ¬ f = 0) (hfl : rLd D 0 f) (hfs : ndiff f (lash s (n.testBit (8 + 0)).toNat (dT D)) = 0) (hfr : ndiff f (rch D n 0) = 0)
    (h : ∀ (I' : Nat → Nat → Int) (dp' : Nat → Int), rFW I I' → RV I' D (dHo D 0) (dLo D 0) → RDp I' dp' → GX D n v dp dp' → (∀ S, ¬ S = 0 → rLd D 1 S → rP D n f S → ¬ dp' (rNx n f S) = -1) → Q (.inl none) (z_cfg t, I', J)) : Go sc d mt_274 0 [vr 1835, vi x1, vi x2, vi x3, vi v, vn, vn, vn, vn] [] (z_cfg t, I, J) Q := by
  subst e1 e2 e3
  have hD := hV.2.2
  have hA := dAll_lt hD
  have hr := hs.1
  have hfle := rLd_le hfl
  have hbt := Bool.toNat_le (n.testBit (8 + 1))
  refine b274_0 (c244 (by omega) (fun d' _ => k244 (b := 1) rfl rfl hr (by decide) (b274_6 ?_)))
  rw [hM.dg hs (by decide : 1 < 2), show (1 : Int) - (((n.testBit (8 + 1)).toNat : Nat) : Int) = ((1 - (n.testBit (8 + 1)).toNat : Nat) : Int) by omega]
  refine c237 (by omega) (fun d' _ => k237 (i := (n.testBit (8 + 1)).toNat) (j := 1 - (n.testBit (8 + 1)).toNat) (by omega) rfl (by omega) (by omega) hV.1 (b274_19 ?_))
  cases hfw : dFlow D (n.testBit (8 + 1)).toNat (1 - (n.testBit (8 + 1)).toNat) with
  | false =>
    refine ⟨⟨by decide, by decide⟩, fun _ => h I dp (rFW.rf I) hV hp GX.rf (fun S hS _ hr => ?_), fun z => absurd rfl z⟩
    have := hr.2.1
    rw [rch_off hfw] at this
    exact absurd (ndiff_z this) hS
  | true =>
    have hrc := rch_on hD hM hfw
    refine ⟨⟨by decide, by decide⟩, fun z => absurd z (by decide), fun _ => ?_⟩
    refine c245 (by omega) (fun d' _ => k245 (p := (n.testBit (8 + 1)).toNat) rfl (by omega) hV.1 hD hs (by omega) (b274_32 ?_))
    have hll : lash s (n.testBit (8 + 1)).toNat (dT D) < 256 := by have := lash_le (D := D) (s := s) (p := (n.testBit (8 + 1)).toNat); omega
    rw [← hrc] at hll ⊢
    have loop : ∀ (m i : Nat) (I1 : Nat → Nat → Int) (dp1 : Nat → Int) (v8 : zV), i + m = (fS D (dHo D 0) (dLo D 0) 1 (dAll D)).length → rFW I I1 → RV I1 D (dHo D 0) (dLo D 0) → RDp I1 dp1 → GX D n v dp dp1 → (∀ i' S, i' < i → (fS D (dHo D 0) (dLo D 0) 1 (dAll D))[i']? = some S → rP D n f S → rLd D 1 S → ¬ dp1 (rNx n f S) = -1) →
        Go sc d mt_274 37 [vr 1835, vi (r : Int), vi ((1 - (n.testBit (8 + 0)).toNat : Nat) : Int), vi (f : Int), vi v, vi ((1 - (n.testBit (8 + 1)).toNat : Nat) : Int), vi ((rch D n 1 : Nat) : Int), vi (i : Int), v8] [] (z_cfg t, I1, J) Q := by
      intro m
      induction m with
      | zero =>
        intro i I1 dp1 v8 hi f1 V1 P1 G1 dn
        have hlen := fS_len D (dHo D 0) (dLo D 0) 1 (dAll D)
        refine b274_37 ?_
        rw [(hl.fw f1).1]
        refine ⟨⟨by omega, by omega⟩, ⟨by omega, by omega⟩, fun z => by omega, fun _ => h I1 dp1 f1 V1 P1 G1 (fun S hS hld hr => ?_)⟩
        rcases hld with z | z
        · exact absurd z hS
        · have hm := rLs_mem.1 z
          obtain ⟨i', hi'⟩ := List.mem_iff_getElem?.1 (fS_mem.2 ⟨hm.1, hm.2.1⟩)
          have := (List.getElem?_eq_some_iff.mp hi').1
          exact dn i' S (by omega) hi' hr (Or.inr z)
      | succ m ih =>
        intro i I1 dp1 v8 hi f1 V1 P1 G1 dn
        have hlen := fS_len D (dHo D 0) (dLo D 0) 1 (dAll D)
        obtain ⟨S, hS⟩ : ∃ S, (fS D (dHo D 0) (dLo D 0) 1 (dAll D))[i]? = some S := ⟨_, List.getElem?_eq_getElem (by omega)⟩
        have hSm := fS_mem.1 (List.mem_of_getElem? hS)
        have eS : I1 3028 (256 + i) = (S : Int) := (hl.fw f1).2 i S hS
        have hw1 : I1 1835 52 = -1 := by rw [f1 1835 (by decide) (by decide) (by decide)]; exact hw
        have next : ∀ (I2 : Nat → Nat → Int) (dp2 : Nat → Int), rFW I I2 → RV I2 D (dHo D 0) (dLo D 0) → RDp I2 dp2 → GX D n v dp dp2 → GX D n v dp1 dp2 → (rP D n f S → rLd D 1 S → ¬ dp2 (rNx n f S) = -1) → Go sc d mt_274 127 [vr 1835, vi (r : Int), vi ((1 - (n.testBit (8 + 0)).toNat : Nat) : Int), vi (f : Int), vi v, vi ((1 - (n.testBit (8 + 1)).toNat : Nat) : Int), vi ((rch D n 1 : Nat) : Int), vi (i : Int), vi (S : Int)] [] (z_cfg t, I2, J) Q := by
          intro I2 dp2 f2 V2 P2 G2 G12 hq
          refine b274_127 ?_
          rw [show (i : Int) + 1 = ((i + 1 : Nat) : Int) by omega]
          refine ih (i + 1) I2 dp2 _ (by omega) f2 V2 P2 G2 (fun i' S' hi' hS' hr hld => ?_)
          by_cases c : i' < i
          · exact G12.ne (dn i' S' c hS' hr hld)
          · have : i' = i := by omega
            subst this
            rw [hS] at hS'
            cases hS'
            exact hq hr hld
        refine b274_37 ?_
        rw [(hl.fw f1).1, show (256 + (i : Int)).toNat = 256 + i by omega, eS, zandn_n (by omega) (by omega), zand_n (by omega) (by omega)]
        refine ⟨⟨by omega, by omega⟩, ⟨by omega, by omega⟩, fun _ => ⟨⟨by omega, by omega⟩, fun c1 => ⟨fun c2 => ?_, fun c2 => ?_⟩, fun c1 => ?_⟩, fun z => by omega⟩
        · refine c248 (by omega) (fun d' _ => k248 (S := S) rfl (by omega) V1 hSm.1.2 hw1 (Or.inl rfl) (fun I2 f2 V2 => b274_84 ?_))
          rw [kp1, dAlong_0 hT]
          have hbl := dBars_lt hD S (dS D) 1 0
          have w2 := FR.w hw1 f2
          have F2 := f1.tr (rFW.fr f2)
          have P2 := P1.fr f2
          refine ⟨⟨by omega, by omega⟩, fun c3 => ?_, fun c3 => ?_⟩
          · have hld : rLd D 1 S := Or.inr (rLs_mem.2 ⟨hSm.1, hSm.2, by omega⟩)
            have hor : f ||| S < 256 := Nat.or_lt_two_pow (n := 8) (by omega) (by omega)
            rw [zor_n (by omega) (by omega)]
            refine c243 (by omega) (fun d' _ => k243 (s := s) (gone := f ||| S) (g := 3) (lg := true) rfl rfl rfl rfl (by omega) V2 hs hor (by decide) w2 (Or.inl rfl) (fun I3 f3 V3 => b274_98 ?_))
            rw [kp1]
            have hol : orN (dS D) (rShB D s (f ||| S) 3 true) < 2 ^ 12 := orN_lt (fun i _ => dBars_lt hD _ _ _ _)
            have key := hM.bar (gone := f ||| S) (g := 3) (lg := true) hD hT (by decide)
            have F3 := F2.tr (rFW.fr f3)
            have P3 := P2.fr f3
            have w3 := FR.w w2 f3
            have hS0 : ¬ S = 0 := by omega
            have hdis : S &&& f = 0 := by omega
            refine ⟨⟨by omega, by omega⟩, fun c4 => ?_, fun c4 => ?_⟩
            · have M1 := hM.af (b := 0) hD (by decide) hfle hfs
              have hsub : ndiff S (lash (dAfter D s 0 (1 - (n.testBit (8 + 0)).toNat) f) (((n ^^^ f) ^^^ 2 ^ (8 + 0)).testBit (8 + 1)).toNat (dT D)) = 0 := by
                have eb : ((n ^^^ f) ^^^ 2 ^ (8 + 0)).testBit (8 + 1) = n.testBit (8 + 1) := by
                  rw [Nat.testBit_xor, Nat.testBit_xor, Nat.testBit_two_pow, decide_eq_false (by omega), Nat.testBit_lt_two_pow (x := f) (i := 8 + 1) (by omega), Bool.xor_false, Bool.xor_false]
                rw [eb]
                have e1 : ndiff S (rch D n 1) = 0 := by omega
                rw [hrc] at e1
                apply Nat.eq_of_testBit_eq
                intro j
                have a1 : (ndiff S (lash s (n.testBit (8 + 1)).toNat (dT D))).testBit j = false := by rw [e1]; exact Nat.zero_testBit j
                have a2 : (S &&& f).testBit j = false := by rw [hdis]; exact Nat.zero_testBit j
                rw [ndiff_bit, lash_bit] at a1
                rw [Nat.testBit_and] at a2
                rw [Nat.zero_testBit, ndiff_bit, lash_bit]
                by_cases cj : j < dT D
                · rw [decide_eq_true cj] at a1 ⊢
                  rw [af_shore (by decide) (by omega) (by omega) (by have := hD.2.1; omega)]
                  cases hq : f.testBit j with
                  | false => rw [if_neg (by decide)]; exact a1
                  | true =>
                    rw [hq, Bool.and_true] at a2
                    rw [a2, Bool.false_and]
                · rw [decide_eq_false cj] at a1 ⊢
                  exact a1
              refine c249 (by omega) (fun d' _ => k249 (s := s) (b := 0) (p := 1 - (n.testBit (8 + 0)).toNat) (S := f) rfl rfl rfl rfl V3.1 hD hs (by decide) (by omega) hfle (fun r1 hr1 => b274_114 ?_))
              refine c249 (by omega) (fun d' _ => k249 (b := 1) (p := 1 - (n.testBit (8 + 1)).toNat) (S := S) rfl rfl rfl rfl V3.1 hD hr1 (by decide) (by omega) hSm.1.2 (fun r2 hr2 => b274_122 ?_))
              have M2 := M1.af (b := 1) hD (by decide) hSm.1.2 hsub
              have eb : ((n ^^^ f) ^^^ 2 ^ (8 + 0)).testBit (8 + 1) = n.testBit (8 + 1) := by
                rw [Nat.testBit_xor, Nat.testBit_xor, Nat.testBit_two_pow, decide_eq_false (by omega), Nat.testBit_lt_two_pow (x := f) (i := 8 + 1) (by omega), Bool.xor_false, Bool.xor_false]
              rw [eb, ← nx_b hf0 hS0 hdis] at M2
              have hrp : rBar D (rNx n f S) (dAll D) 3 = false → rP D n f S := fun z => ⟨hfr, by omega, hdis, rOkB_iff.2 ⟨by rw [stay_b hf0 hS0]; decide, by rw [stay_b hf0 hS0]; exact key.1 (by omega), z⟩⟩
              refine c273 (by omega) (fun d' _ => k273 (m := rNx n f S) rfl (by omega) V3 w3 hT hr2 M2 P3 hv (fun c5 c6 I4 f4 V4 P4 => ?_) (fun c5 I4 f4 V4 P4 => ?_))
              · have g := GX.one (v := v) c6 (⟨f, S, hfl, hld, hrp c5, rfl⟩ : rE D n (rNx n f S))
                exact next I4 _ (F3.tr f4) V4 P4 (G1.tr g) g (fun _ _ => by unfold upI; rw [if_pos rfl]; omega)
              · refine next I4 dp1 (F3.tr f4) V4 P4 G1 GX.rf (fun hr _ => ?_)
                rcases c5 with c5 | c5
                · exact absurd (rOkB_iff.1 hr.2.2.2).2.2 c5
                · exact c5
            · refine next I3 dp1 F3 V3 P3 G1 GX.rf (fun hr _ => ?_)
              have := (rOkB_iff.1 hr.2.2.2).2.1
              rw [stay_b hf0 hS0] at this
              exact absurd (key.2 this) (by omega)
          · refine next I2 dp1 F2 V2 P2 G1 GX.rf (fun _ hld => ?_)
            rcases hld with z | z
            · omega
            · exact absurd (rLs_mem.1 z).2.2 (by omega)
        · exact next I1 dp1 f1 V1 P1 G1 GX.rf (fun hr _ => absurd hr.2.2.1 (by omega))
        · exact next I1 dp1 f1 V1 P1 G1 GX.rf (fun hr _ => absurd hr.2.1 (by omega))
    exact loop _ 0 I dp _ (Nat.zero_add _) (rFW.rf I) hV hp GX.rf (fun i' S hi' => absurd hi' (by omega))
end
