/-! ===== what bars a crossing made by hand: pure; the class's judge, the reference's bare ===== -/
def jB (D : tD) (s : Nat) (x1 x2 x3 : Int) : Int := if (0 ≤ x1 ∧ x1 < dB D) ∧ (0 ≤ x2 ∧ x2 < dS D) ∧ dFlow D (lberth s x1.toNat) x2.toNat = true then (if zand x3 (zxor ((lash s (lberth s x1.toNat) (dT D) : Nat) : Int) (-1)) = 0 then (if sm (dT D) (dRo D) x3.toNat = 0 then 3 else if dHo D x1.toNat < sm (dT D) (fun _ => 1) x3.toNat then 4 else if dLo D x1.toNat < sm (dT D) (dWt D) x3.toNat then 5 else if dLamp D = -1 ∨ llamp s = lberth s x1.toNat then 0 else 6) else 2) else 1
theorem zsub_of {x : Int} {h : Nat} (hx : inR x) (hh : h < 256) (e : zand x (zxor (h : Int) (-1)) = 0) : ∃ S : Nat, x = (S : Int) ∧ S &&& h = S := by
  have e1 : (Int32.ofInt x).toBitVec &&& ((Int32.ofInt (h : Int)).toBitVec ^^^ BitVec.allOnes 32) = 0#32 := by
    have e2 : Int32.ofInt x &&& Int32.ofInt (zxor (h : Int) (-1)) = 0 := by
      apply Int32.toInt_inj.mp
      exact e
    have e3 := congrArg Int32.toBitVec e2
    rw [Int32.toBitVec_and] at e3
    have e4 : Int32.ofInt (zxor (h : Int) (-1)) = Int32.ofInt (h : Int) ^^^ Int32.ofInt (-1) := by
      unfold zxor
      rw [Int32.ofInt_toInt]
    rw [e4, Int32.toBitVec_xor] at e3
    exact e3
  rw [bv_nand] at e1
  have e5 : (Int32.ofInt x).toBitVec = (Int32.ofInt x).toBitVec &&& (Int32.ofInt (h : Int)).toBitVec := by
    apply BitVec.eq_of_getLsbD_eq
    intro i hi
    have := congrArg (fun b => b.getLsbD i) e1
    simp only [BitVec.getLsbD_xor, BitVec.getLsbD_and, BitVec.getLsbD_zero] at this
    rw [BitVec.getLsbD_and]
    revert this
    cases (Int32.ofInt x).toBitVec.getLsbD i <;> cases (Int32.ofInt (h : Int)).toBitVec.getLsbD i <;> decide
  have e6 := congrArg BitVec.toNat e5
  rw [BitVec.toNat_and, zbv h, BitVec.toNat_ofNat, Nat.mod_eq_of_lt (by omega : h < 2 ^ 32)] at e6
  refine ⟨(Int32.ofInt x).toBitVec.toNat, ?_, e6.symm⟩
  have hle : (Int32.ofInt x).toBitVec.toNat ≤ h := by rw [e6]; exact Nat.and_le_right
  have := zval (v := Int32.ofInt x) rfl (by omega : (Int32.ofInt x).toBitVec.toNat < 2147483648)
  rw [← this]
  exact (wr_id hx).symm
theorem zsub_to {S h : Nat} (hS : S < 256) (hh : h < 256) (e : S &&& h = S) : zand (S : Int) (zxor (h : Int) (-1)) = 0 := by
  rw [zandn_n (by omega) (by omega)]
  have : ndiff S h = 0 := ndiff_sub.mpr e
  rw [this]
  rfl
theorem lash_all {D : tD} {s p S : Nat} (hD : dOk D) (h : S &&& lash s p (dT D) = S) : S ≤ dAll D := by
  have h1 := lash_lt s p (dT D)
  have h2 : S &&& lash s p (dT D) ≤ lash s p (dT D) := Nat.and_le_right
  have : S ≤ lash s p (dT D) := by rw [← h]; exact h2
  unfold dAll
  omega
section
variable {sc : mS} {d : Nat} {t : zT} {I J : Nat → Nat → Int} {Q : zR → zW → Prop} {D : tD} {ho lo : Nat}
theorem k89 {mk : Nat} {v : Int} (h0 : I 1732 0 = mk) (hm : mk ≤ 60) (hv : I 1780 mk = v) (h : Q (.inl (some (vi v))) (z_cfg t, I, J)) : Go sc d mt_89 0 [vr 1732] [] (z_cfg t, I, J) Q := by
  refine b89_0 ?_
  rw [h0, Int.toNat_natCast, hv]
  exact ⟨⟨by omega, by omega⟩, fun z => by omega, fun _ => ⟨fun z => by omega, fun _ => ⟨⟨by omega, by omega⟩, h⟩⟩⟩
theorem k178 {mk : Nat} {v : Int} (h0 : I 1732 0 = mk) (hm : mk ≤ 60) (hv : I 1812 mk = v) (h : Q (.inl (some (vi v))) (z_cfg t, I, J)) : Go sc d mt_178 0 [vr 1732] [] (z_cfg t, I, J) Q := by
  refine b178_0 ?_
  rw [h0, Int.toNat_natCast, hv]
  exact ⟨⟨by omega, by omega⟩, fun z => by omega, fun _ => ⟨fun z => by omega, fun _ => ⟨⟨by omega, by omega⟩, h⟩⟩⟩
theorem k88 {x1 x2 x3 : Int} {mk s : Nat} (h1 : inR x1) (h2 : inR x2) (h3 : inR x3) (hd : 1 ≤ d) (hU : RU t I D) (hpb : t_pb t = t_rb t) (h0 : I 1732 0 = mk) (hm : mk ≤ 60) (hs : I 1780 mk = s) (hst : s < 4194304) (h : Q (.inl (some (vi (jB D s x1 x2 x3)))) (z_cfg t, I, J)) : Go sc d mt_88 0 [vr 1732, vi x1, vi x2, vi x3, vn] [] (z_cfg t, I, J) Q := by
  have hD := hU.2.2.2
  have hC : CD (t_pb t) I D := by rw [hpb]; exact hU.1
  have hR := hU.2.1
  have e5 : I (z_md (t_pb t)) 5 = dB D := hC.2.2.1
  have e0 : I (z_md (t_pb t)) 0 = dS D := hC.1
  have e9 : I (z_md (t_pb t)) 9 = dLamp D := hC.2.2.2.1
  have hB := hD.2.2.1
  have hS4 := hD.1
  have hA := dAll_lt hD
  unfold jB at h
  refine b88_0 ?_
  rw [e5, e0]
  by_cases c1 : 0 ≤ x1 ∧ x1 < dB D
  · by_cases c2 : 0 ≤ x2 ∧ x2 < dS D
    · refine ⟨h1, fun z => by omega, fun _ => ⟨⟨by omega, by omega⟩, fun _ => ⟨fun _ => ⟨h2, fun z => by omega, fun _ => ⟨⟨by omega, by omega⟩, fun _ => ?_, fun z => by omega⟩⟩, fun z => by omega⟩, fun z => by omega⟩⟩
      have hst89 : ∀ {d' : Nat} {K : zR → zW → Prop}, K (.inl (some (vi (s : Int)))) (z_cfg t, I, J) → Go sc d' mt_89 0 [vr 1732] [] (z_cfg t, I, J) K := fun hk => k89 h0 hm hs hk
      refine c89 hd (fun d' _ => hst89 (b88_41 ?_))
      refine c45 hd (fun d' _ => k45 (s := s) (b := x1.toNat) rfl (by omega) hst (by omega) (b88_45 ?_))
      have hbl := lberth_lt s x1.toNat
      refine c50 hd (fun d' _ => k50 (i := lberth s x1.toNat) (j := x2.toNat) rfl (by omega) hbl (by omega) hC hD (b88_57 ?_))
      cases hf : dFlow D (lberth s x1.toNat) x2.toNat with
      | false =>
        rw [if_neg (fun z => by rw [hf] at z; exact absurd z.2.2 (by decide))] at h
        exact ⟨⟨by decide, by decide⟩, fun _ => h, fun z => absurd rfl z⟩
      | true =>
        rw [if_pos ⟨c1, c2, hf⟩] at h
        refine ⟨⟨by decide, by decide⟩, fun z => absurd z (by decide), fun _ => ?_⟩
        refine c89 hd (fun d' _ => hst89 (b88_67 ?_))
        refine c27 hd (fun d' _ => k27 hC hD (b88_76 ?_))
        refine c43 hd (fun d' _ => k43 (s := s) (p := lberth s x1.toNat) (n := dT D) rfl rfl rfl hst hbl hD.2.1 (b88_79 ?_))
        have hll := lash_lt s (lberth s x1.toNat) (dT D)
        have h8 : 2 ^ dT D ≤ 2 ^ 8 := Nat.pow_le_pow_right (by decide) hD.2.1
        refine ⟨fun c => ?_, fun c => ?_⟩
        · rw [if_pos c] at h
          obtain ⟨S, hxS, hSub⟩ := zsub_of h3 (by omega) c
          have hSA := lash_all hD hSub
          subst hxS
          rw [Int.toNat_natCast] at h
          obtain ⟨g1, g2, g3, -⟩ := dsm hD S
          refine c29 hd (fun d' _ => k29 rfl hR hD hSA (b88_95 ?_))
          refine ⟨⟨by omega, by omega⟩, fun z => ?_, fun z => ?_⟩
          · rw [if_pos (by omega)] at h; exact h
          · rw [if_neg (by omega)] at h
            refine c30 hd (fun d' _ => k30 rfl hR hD hSA (b88_108 ?_))
            have hbb := hC.2.2.2.2.2.2.1 x1.toNat (by omega)
            have hbd := hD.2.2.2.2.2.2.1 x1.toNat (by omega)
            rw [hbb.1]
            refine ⟨⟨by omega, by omega⟩, ⟨by omega, by omega⟩, ⟨by omega, by omega⟩, fun z2 => ?_, fun z2 => ?_⟩
            · rw [if_pos (by omega)] at h; exact h
            · rw [if_neg (by omega)] at h
              refine c31 hd (fun d' _ => k31 rfl hR hD hSA (b88_130 ?_))
              rw [hbb.2.1, e9]
              refine ⟨⟨by omega, by omega⟩, ⟨by omega, by omega⟩, ⟨by omega, by omega⟩, fun z3 => ?_, fun z3 => ⟨lamp_in hD, fun z4 => ?_, fun z4 => ?_⟩⟩
              · rw [if_pos (by omega)] at h; exact h
              · rw [if_neg (by omega), if_pos (Or.inl z4)] at h; exact h
              · rw [if_neg (by omega)] at h
                refine c89 hd (fun d' _ => hst89 (b88_159 ?_))
                refine c47 hd (fun d' _ => k47 (s := s) rfl hst (b88_162 ?_))
                have hl4 := llamp_lt s
                refine ⟨⟨by omega, by omega⟩, ⟨by omega, by omega⟩, fun z5 => ?_, fun z5 => ?_⟩
                · rw [if_pos (Or.inr (by omega))] at h; exact h
                · rw [if_neg (fun z => by
                    rcases z with z | z
                    · exact z4 z
                    · exact z5 (by rw [z]))] at h
                  exact h
        · rw [if_neg c] at h; exact h
    · rw [if_neg (fun z => c2 z.2.1)] at h
      refine ⟨h1, fun z => by omega, fun _ => ⟨⟨by omega, by omega⟩, fun _ => ⟨fun _ => ⟨h2, fun _ => h, fun _ => ⟨⟨by omega, by omega⟩, fun z => by omega, fun _ => h⟩⟩, fun _ => h⟩, fun _ => h⟩⟩
  · rw [if_neg (fun z => c1 z.1)] at h
    exact ⟨h1, fun _ => h, fun _ => ⟨⟨by omega, by omega⟩, fun z => by omega, fun _ => h⟩⟩
theorem k277 {x1 x2 x3 x4 : Int} {s r : Nat} (e1 : x1 = r) (h2 : inR x2) (h3 : inR x3) (h4 : inR x4) (hd : 1 ≤ d) (hV : RV I D (dHo D 0) (dLo D 0)) (hsr : SR s r) (hst : s < 4194304) (h : Q (.inl (some (vi (jB D s x2 x3 x4)))) (z_cfg t, I, J)) : Go sc d mt_277 0 [vr 1835, vi x1, vi x2, vi x3, vi x4, vn] [] (z_cfg t, I, J) Q := by
  subst e1
  obtain ⟨hR, -, hD⟩ := hV
  have e3 : I 1835 3 = dB D := hR.2.2.1
  have e1' : I 1835 1 = dS D := hR.1
  have e5 : I 1835 5 = dLamp D := hR.2.2.2.2.1
  have hB := hD.2.2.1
  have hS4 := hD.1
  have hA := dAll_lt hD
  have hr := hsr.1
  unfold jB at h
  refine b277_0 ?_
  rw [e3, e1']
  by_cases c1 : 0 ≤ x2 ∧ x2 < dB D
  · by_cases c2 : 0 ≤ x3 ∧ x3 < dS D
    · refine ⟨h2, fun z => by omega, fun _ => ⟨⟨by omega, by omega⟩, fun _ => ⟨h3, fun z => by omega, fun _ => ⟨⟨by omega, by omega⟩, fun _ => ?_, fun z => by omega⟩⟩, fun z => by omega⟩⟩
      have hdg : dg r (8 + x2.toNat) = lberth s x2.toNat := by
        rw [hsr.2.2 (8 + x2.toNat) (by omega) (by omega)]
        unfold dg lberth
        rw [show 2 * (8 + x2.toNat) = 16 + 2 * x2.toNat by omega]
      refine c244 hd (fun d' _ => k244 (r := r) (b := x2.toNat) rfl (by omega) hr (by omega) (b277_30 ?_))
      rw [hdg]
      have hbl := lberth_lt s x2.toNat
      refine c237 hd (fun d' _ => k237 (i := lberth s x2.toNat) (j := x3.toNat) rfl (by omega) hbl (by omega) hR (b277_34 ?_))
      cases hf : dFlow D (lberth s x2.toNat) x3.toNat with
      | false =>
        rw [if_neg (fun z => by rw [hf] at z; exact absurd z.2.2 (by decide))] at h
        exact ⟨⟨by decide, by decide⟩, fun _ => h, fun z => absurd rfl z⟩
      | true =>
        rw [if_pos ⟨c1, c2, hf⟩] at h
        refine ⟨⟨by decide, by decide⟩, fun z => absurd z (by decide), fun _ => ?_⟩
        refine c244 hd (fun d' _ => k244 (r := r) (b := x2.toNat) rfl (by omega) hr (by omega) (b277_44 ?_))
        rw [hdg]
        refine c245 hd (fun d' _ => k245 (s := s) (p := lberth s x2.toNat) rfl rfl hR hD hsr hbl (b277_55 ?_))
        have hll := lash_lt s (lberth s x2.toNat) (dT D)
        have h8 : 2 ^ dT D ≤ 2 ^ 8 := Nat.pow_le_pow_right (by decide) hD.2.1
        refine ⟨fun c => ?_, fun c => ?_⟩
        · rw [if_pos c] at h
          obtain ⟨S, hxS, hSub⟩ := zsub_of h4 (by omega) c
          have hSA := lash_all hD hSub
          subst hxS
          rw [Int.toNat_natCast] at h
          obtain ⟨g1, g2, g3, -⟩ := dsm hD S
          refine c228 hd (fun d' _ => k228 rfl hR hD hSA (b277_69 ?_))
          refine ⟨⟨by omega, by omega⟩, fun z => ?_, fun z => ?_⟩
          · rw [if_pos (by omega)] at h; exact h
          · rw [if_neg (by omega)] at h
            refine c226 hd (fun d' _ => k226 (n := dT D) rfl hD.2.1 (lt_all hSA) (b277_79 ?_))
            have hbb := hR.2.2.2.2.2.2.1 x2.toNat (by omega)
            have hbd := hD.2.2.2.2.2.2.1 x2.toNat (by omega)
            have eh : (if x2.toNat = 0 then dHo D 0 else dHo D x2.toNat) = dHo D x2.toNat := by
              split
              · rename_i q; rw [q]
              · rfl
            have el : (if x2.toNat = 0 then dLo D 0 else dLo D x2.toNat) = dLo D x2.toNat := by
              split
              · rename_i q; rw [q]
              · rfl
            rw [hbb.1, eh]
            refine ⟨⟨by omega, by omega⟩, ⟨by omega, by omega⟩, ⟨by omega, by omega⟩, fun z2 => ?_, fun z2 => ?_⟩
            · rw [if_pos (by omega)] at h; exact h
            · rw [if_neg (by omega)] at h
              refine c227 hd (fun d' _ => k227 rfl hR hD hSA (b277_100 ?_))
              rw [hbb.2.1, el, e5]
              refine ⟨⟨by omega, by omega⟩, ⟨by omega, by omega⟩, ⟨by omega, by omega⟩, fun z3 => ?_, fun z3 => ⟨lamp_in hD, fun z4 => ?_, fun z4 => ?_⟩⟩
              · rw [if_pos (by omega)] at h; exact h
              · rw [if_neg (by omega), if_pos (Or.inl z4)] at h; exact h
              · rw [if_neg (by omega)] at h
                have hlamp : zand (zshr (r : Int) 20) 3 = ((llamp s : Nat) : Int) := by
                  rw [show (20 : Int) = ((2 * 10 : Nat) : Int) from rfl, zdg hr (by omega), hsr.2.2 10 (by omega) (by omega)]
                  rfl
                rw [hlamp]
                have hl4 := llamp_lt s
                refine ⟨⟨by omega, by omega⟩, fun z5 => ?_, fun z5 => ?_⟩
                · rw [if_pos (Or.inr (by omega))] at h; exact h
                · rw [if_neg (fun z => by
                    rcases z with z | z
                    · exact z4 z
                    · exact z5 (by rw [z]))] at h
                  exact h
        · rw [if_neg c] at h; exact h
    · rw [if_neg (fun z => c2 z.2.1)] at h
      exact ⟨h2, fun z => by omega, fun _ => ⟨⟨by omega, by omega⟩, fun _ => ⟨h3, fun _ => h, fun _ => ⟨⟨by omega, by omega⟩, fun z => by omega, fun _ => h⟩⟩, fun _ => h⟩⟩
  · rw [if_neg (fun z => c1 z.1)] at h
    exact ⟨h2, fun _ => h, fun _ => ⟨⟨by omega, by omega⟩, fun z => by omega, fun _ => h⟩⟩
end
