/-! ===== what the constructors leave holds between two calls ===== -/
def ct_D : tD := d_W dIni w_all
def ct_t : zT := (243221, 1204, [], false, false, false, false, false, true)
def ct_l : List (Nat × Nat × Int) := cs_41.2.2
def ct_s : sT := sNew (ct_D, (fun _ => 0), 0, -1, (0, fun _ => 0, fun _ => 0, -1), none) ct_D
theorem ct_cells : cs_41.1 = z_tab ct_t ++ t_l ct_t := ct_leq_s ct_ce_s _ _ (by decide +kernel)
theorem ct_world : z_x (ct_x ct_F1 cs_41) = (z_cfg ct_t, ct_I ct_F1 ct_l, ct_J) := by
  show (z_cfgL cs_41.1 cs_41.2.1, ct_I ct_F1 cs_41.2.2, ct_J) = (z_cfgL (z_tab ct_t ++ t_l ct_t) (t_s ct_t), ct_I ct_F1 ct_l, ct_J)
  rw [ct_cells]
  rfl
theorem ct_z (a : Nat) (h8 : ¬ a = 884) (h : ct_fr ct_l a = true) (k : Nat) : ct_I ct_F1 ct_l a k = 0 := by
  show (if a = 884 then ct_F1 k else ct_lk ct_l a k) = 0
  rw [if_neg h8, ct_lk_fr ct_l h]
theorem ct_dOk : dOk ct_D := dOk.W dOk.ini (by decide)
theorem ct_nT {i : Nat} (h : i < dT ct_D) : False := Nat.not_lt_zero i h
theorem ct_nB {i : Nat} (h : i < dB ct_D) : False := Nat.not_lt_zero i h
theorem ct_nL {i : Nat} (h : i < dL ct_D) : False := Nat.not_lt_zero i h
theorem ct_nA {S : Nat} (h0 : 0 < S) (h : S ≤ dAll ct_D) : False := by
  have e : dAll ct_D = 0 := rfl
  omega
theorem ct_wa : ∀ i, i < 4 → ct_I ct_F1 ct_l 340 i = ((dWa ct_D i : Nat) : Int) := by decide +kernel
theorem ct_CD : CD false (ct_I ct_F1 ct_l) ct_D := by
  refine ⟨by decide +kernel, by decide +kernel, by decide +kernel, by decide +kernel, by decide +kernel, fun i hi => (ct_nT hi).elim, fun i hi => (ct_nB hi).elim, ct_wa, fun i hi => (ct_nL hi).elim, fun _ => 0, fun k _ => ?_, fun i hi => (ct_nL hi).elim, fun _ _ => Nat.zero_le _⟩
  exact ct_z 404 (by decide) (by decide +kernel) k
theorem ct_RU : RU ct_t (ct_I ct_F1 ct_l) ct_D := by
  refine ⟨ct_CD, fun S _ => ⟨?_, ?_, ?_, ?_⟩, fun S p q l h1 h2 => (ct_nA h1 h2).elim, ct_dOk⟩
  · exact ct_z 916 (by decide) (by decide +kernel) S
  · exact ct_z 948 (by decide) (by decide +kernel) S
  · exact ct_z 980 (by decide) (by decide +kernel) S
  · exact ct_z 1012 (by decide) (by decide +kernel) S
theorem ct_z6 (b : Bool) (i : Nat) : ct_I ct_F1 ct_l (z_mf b 6) i = 0 := by
  cases b
  · exact ct_z 244 (by decide) (by decide +kernel) i
  · exact ct_z 596 (by decide) (by decide +kernel) i
theorem ct_z7 (b : Bool) (i : Nat) : ct_I ct_F1 ct_l (z_mf b 7) i = 0 := by
  cases b
  · exact ct_z 276 (by decide) (by decide +kernel) i
  · exact ct_z 628 (by decide) (by decide +kernel) i
theorem ct_TX : TX ct_t (ct_I ct_F1 ct_l) ct_D := by
  refine ⟨⟨Or.inl (by decide +kernel), by decide +kernel, by decide +kernel, Or.inl rfl⟩, rfl, ct_RU, fun b i _ => ?_⟩
  rw [ct_z6, ct_z7]
  exact ⟨⟨by decide, by decide⟩, ⟨by decide, by decide⟩⟩
theorem ct_SN (b : Bool) : SN b (ct_I ct_F1 ct_l) := by
  refine ⟨fun i _ => ?_, ?_, ?_⟩
  · rw [ct_z6, ct_z7]
    exact ⟨⟨by decide, by decide⟩, ⟨by decide, by decide⟩⟩
  · cases b
    · exact ct_z 404 (by decide) (by decide +kernel) 0
    · exact ct_z 756 (by decide) (by decide +kernel) 0
  · cases b
    · exact Or.inl (by decide +kernel)
    · exact Or.inl (by decide +kernel)
theorem ct_CIv : CIv ct_t (ct_I ct_F1 ct_l) ct_s 0 := by
  refine ⟨⟨ct_TX, rfl, ct_SN⟩, ⟨fun i _ => ⟨?_, ?_⟩, ?_, ?_⟩, ⟨⟨⟨by decide +kernel, by decide +kernel⟩, ⟨by decide +kernel, by decide +kernel⟩, ⟨by decide +kernel, by decide +kernel⟩, ⟨by decide +kernel, by decide +kernel⟩, Or.inl (by decide +kernel)⟩, ⟨Or.inl (by decide +kernel), Or.inl (by decide +kernel), Or.inl (by decide +kernel)⟩⟩, ⟨Or.inl (by decide +kernel), by decide +kernel, by decide +kernel⟩, ?_, ?_⟩
  · exact ct_z 85 (by decide) (by decide +kernel) i
  · show (0 : Nat) < 256
    decide
  · show ct_I ct_F1 ct_l 42 1 = ((0 : Nat) : Int)
    decide +kernel
  · show ct_I ct_F1 ct_l 42 2 = -1
    decide +kernel
  · show ct_I ct_F1 ct_l 1672 0 = -1
    decide +kernel
  · refine ⟨?_, ?_, fun i hi => ?_⟩
    · show ct_I ct_F1 ct_l 1732 0 = ((0 : Nat) : Int)
      decide +kernel
    · show ct_I ct_F1 ct_l 1732 1 = -1
      decide +kernel
    · obtain rfl : i = 0 := Nat.le_zero.1 hi
      refine ⟨?_, ?_⟩
      · show ct_I ct_F1 ct_l 1780 0 = ((dStart ct_D : Nat) : Int)
        decide +kernel
      · show ct_I ct_F1 ct_l 1812 0 = ((0 : Nat) : Int)
        decide +kernel
theorem ct_tb : ∀ i, i < 4 → ∀ j, j < 4 → (dWa ct_D i).testBit j = decide (¬ i = j) := by decide +kernel
theorem ct_RD : RD (ct_I ct_F1 ct_l) ct_D (dHo ct_D 0) (dLo ct_D 0) :=
  ⟨by decide +kernel, by decide +kernel, by decide +kernel, by decide +kernel, by decide +kernel, fun i hi => (ct_nT hi).elim, fun i hi => (ct_nB hi).elim, Or.inl ⟨by decide +kernel, fun i j hi hj => ct_tb i hi j hj⟩, fun i hi => (ct_nL hi).elim, fun i hi => (ct_nL hi).elim⟩
theorem ct_dg : ∀ i, i < 8 → dg 0 i = lshore 0 i := by decide +kernel
theorem ct_SR : SR (dStart ct_D) 0 := by
  have e : dStart ct_D = 0 := by decide +kernel
  rw [e]
  exact ⟨by decide, ct_dg, fun _ _ _ => rfl⟩
theorem ct_RIv : RIv (ct_I ct_F1 ct_l) ct_s := by
  refine ⟨⟨⟨ct_RD, fun S p q l h1 h2 => (ct_nA h1 h2).elim, ct_dOk⟩, by decide +kernel⟩, ⟨Or.inl (by decide +kernel), Or.inl (by decide +kernel), ⟨Or.inl (by decide +kernel), Or.inl (by decide +kernel)⟩, Or.inl (by decide +kernel)⟩, ?_, ⟨?_, ?_, fun i hi => ?_⟩, fun i _ => ⟨?_, ?_⟩, ?_, ?_⟩
  · show ct_I ct_F1 ct_l 1835 70 = -1
    decide +kernel
  · show ct_I ct_F1 ct_l 1835 84 = ((0 : Nat) : Int)
    decide +kernel
  · show ct_I ct_F1 ct_l 1835 85 = -1
    decide +kernel
  · obtain rfl : i = 0 := Nat.le_zero.1 hi
    refine ⟨⟨0, ?_, ct_SR⟩, ?_⟩
    · show ct_I ct_F1 ct_l 3316 0 = ((0 : Nat) : Int)
      decide +kernel
    · show ct_I ct_F1 ct_l 3348 0 = ((0 : Nat) : Int)
      decide +kernel
  · exact ct_z 2196 (by decide) (by decide +kernel) i
  · show (0 : Nat) < 256
    decide
  · show ct_I ct_F1 ct_l 1835 18 = ((0 : Nat) : Int)
    decide +kernel
  · show ct_I ct_F1 ct_l 1835 20 = -1
    decide +kernel
theorem ct_LIv : LIv ct_t (ct_I ct_F1 ct_l) ct_s 0 := ⟨ct_CIv, ct_RIv, PVs.new ct_dOk ⟨by decide, by decide⟩⟩
/-- the whole law, by the small machine -/
theorem ct_whole {sc : mS} {d : Nat} {Q : zR → zW → Prop} (hd : 110 ≤ d) (hsc : sc.1 ≤ 3072) (hQ : ∀ (t' : zT) (I' J' : Nat → Nat → Int), rS t' ≤ 300000 → rC t' ≤ 600 → Q (.inl (some (vi 1))) (z_cfg t', I', J')) : Go sc d mt_283 0 [vr 56, vn, vn, vn, vn, vn, vn] [] (z_x (ct_x (fun _ => 0) cs_0)) Q := by
  refine ct_law hd ?_
  rw [ct_world]
  have r1 : rS ct_t = 293221 := by decide +kernel
  have r2 : rC ct_t = 2 := by decide +kernel
  exact law_loop (by omega) (by omega) hQ 512 0 ct_t _ _ ct_s 0 vn vn ⟨by decide, by decide⟩ (by omega) ct_LIv (by decide) ⟨by rw [r1]; decide, by rw [r2]; decide⟩
