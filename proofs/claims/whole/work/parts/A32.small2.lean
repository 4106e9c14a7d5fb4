/-! ===== bars, safe: both sides; way, where, rides: the class ===== -/
/-- how many sets up to n no law bars -/
def cSaf (D : tD) (p nb l n : Nat) : Nat := match n with
  | 0 => 0
  | n + 1 => cSaf D p nb l n + (decide (dBars D (n + 1) p nb l = 0)).toNat
theorem cSaf_le (D : tD) (p nb l : Nat) : ∀ n, cSaf D p nb l n ≤ n := by
  intro n
  induction n with
  | zero => exact Nat.le_refl _
  | succ n ih =>
    have := Bool.toNat_le (decide (dBars D (n + 1) p nb l = 0))
    show cSaf D p nb l n + _ ≤ n + 1
    omega
def grpOk (D : tD) (x1 x2 : Int) : Prop := (0 ≤ x1 ∧ x1 ≤ dS D) ∧ (0 ≤ x2 ∧ x2 ≤ 2)
theorem zand_all {D : tD} (hD : dOk D) (x : Int) : ∃ S : Nat, zand x (dAll D : Int) = (S : Int) ∧ S ≤ dAll D := by
  have hA := dAll_lt hD
  refine ⟨(Int32.ofInt x &&& Int32.ofInt (dAll D : Int)).toBitVec.toNat, ?_, ?_⟩
  · have hle : (Int32.ofInt x &&& Int32.ofInt (dAll D : Int)).toBitVec.toNat ≤ dAll D := by
      rw [Int32.toBitVec_and, BitVec.toNat_and, zbv (dAll D), BitVec.toNat_ofNat, Nat.mod_eq_of_lt (by omega : dAll D < 2 ^ 32)]
      exact Nat.and_le_right
    exact zval rfl (by omega)
  · rw [Int32.toBitVec_and, BitVec.toNat_and, zbv (dAll D), BitVec.toNat_ofNat, Nat.mod_eq_of_lt (by omega : dAll D < 2 ^ 32)]
    exact Nat.and_le_right
theorem dBarR_s {D : tD} (S p nb l : Nat) : dBarR D S p (if p = dS D then 1 else nb) l = dBars D S p nb l := rfl
section
variable {sc : mS} {d : Nat} {t : zT} {I J : Nat → Nat → Int} {Q : zR → zW → Prop} {D : tD} {ho lo : Nat} {K : Option (List (Nat × Nat × Nat))}
theorem k142 {x1 x2 x3 : Int} {lb : Bool} (h2 : inR x2) (h3 : inR x3) (hd : 3 ≤ d) (hU : RU t I D) (htb : t_b t = t_rb t) (hno : ¬ grpOk D x2 x3 → Q (.inr 0) (z_cfg (t_th t), z_zr I (aTh t), z_zr J (aTh t))) (h : grpOk D x2 x3 → ∀ (I' : Nat → Nat → Int), FB I I' → RU t I' D → Q (.inl (some (vi ((dBars D (zand x1 (dAll D : Int)).toNat x2.toNat x3.toNat lb.toNat : Nat) : Int)))) (z_cfg t, I', J)) : Go sc d mt_142 0 [vr 42, vi x1, vi x2, vi x3, vi ((lb.toNat : Nat) : Int)] [] (z_cfg t, I, J) Q := by
  have hD := hU.2.2.2
  have hC : CD (t_b t) I D := by rw [htb]; exact hU.1
  refine b142_0 (c143 (by omega) (fun d' _ => k143 h2 h3 hC hD (fun hb => hno hb) (fun hr => b142_6 ?_)))
  have h := h hr
  refine c27 (by omega) (fun d' _ => k27 hC hD (b142_18 ?_))
  obtain ⟨S, hS1, hS2⟩ := zand_all hD x1
  rw [hS1] at h ⊢
  rw [Int.toNat_natCast] at h
  have go : ∀ v : Int, v = ((lb.toNat : Nat) : Int) → Go sc d mt_142 31 [vr 42, vi x1, vi x2, vi x3, vi ((lb.toNat : Nat) : Int)] [vi v, vi x3, vi x2, vi (S : Int), vr 839] (z_cfg t, I, J) Q := by
    intro v hv
    refine b142_31 (c33 (by omega) (fun d' _ => k33 (S := S) (p := x2.toNat) (nb := x3.toNat) (l := lb.toNat) rfl (by omega) (by omega) hv (by omega) hU hS2 (by omega) (by omega) (Bool.toNat_le lb) (fun I' f hU' => b142_34 (h I' f hU'))))
  cases lb with
  | false => exact ⟨⟨by decide, by decide⟩, fun _ => go 0 rfl, fun z => absurd rfl z⟩
  | true => exact ⟨⟨by decide, by decide⟩, fun z => absurd z (by decide), fun _ => go 1 rfl⟩
theorem k221 {x1 x2 : Int} (h1 : inR x1) (h2 : inR x2) (hd : 1 ≤ d) (hR : RD I D ho lo) (hD : dOk D) (h0 : I 1835 0 = 0) (hno : ¬ grpOk D x1 x2 → Q (.inl (some (vi 0))) (z_cfg t, z_u I 1835 0 1, J)) (h : grpOk D x1 x2 → Q (.inl (some (vi 1))) (z_cfg t, I, J)) : Go sc d mt_221 0 [vr 1835, vi x1, vi x2] [] (z_cfg t, I, J) Q := by
  have h8 := hD.1
  have bad : ¬ grpOk D x1 x2 → Go sc d mt_221 26 [vr 1835, vi x1, vi x2] [vr 1835] (z_cfg t, I, J) Q := fun hb => b221_26 (b221_27 (c189 hd (fun d' _ => k189n rfl h0 (b221_31 ⟨Or.inl rfl, hno hb⟩))))
  unfold grpOk at bad h
  refine b221_0 ?_
  rw [hR.1]
  exact ⟨h1, fun c => bad (by omega), fun c => ⟨⟨by omega, by omega⟩, fun c2 => bad (by omega), fun c2 => ⟨h2, fun c3 => bad (by omega), fun c3 => ⟨fun c4 => bad (by omega), fun c4 => b221_27 (c189 hd (fun d' _ => k189y rfl h0 (b221_31 ⟨Or.inr rfl, h (by omega)⟩)))⟩⟩⟩⟩
theorem k220 {x1 x2 x3 : Int} {lb : Bool} (h2 : inR x2) (h3 : inR x3) (hd : 4 ≤ d) (hV : RV I D ho lo) (hno : ¬ grpOk D x2 x3 → Q (.inl (some (vi 0))) (z_cfg t, z_u (z_u I 1835 0 0) 1835 0 1, J)) (h : grpOk D x2 x3 → ∀ (I' : Nat → Nat → Int), FR (z_u I 1835 0 0) I' → RV I' D ho lo → Q (.inl (some (vi ((dBars D (zand x1 (dAll D : Int)).toNat x2.toNat x3.toNat lb.toNat : Nat) : Int)))) (z_cfg t, I', J)) : Go sc d mt_220 0 [vr 1835, vi x1, vi x2, vi x3, vi ((lb.toNat : Nat) : Int)] [] (z_cfg t, I, J) Q := by
  have hD := hV.2.2
  have hS4 := hD.1
  have V1 := hV.f0 (v := 0)
  refine b220_0 (c221 (by omega) (fun d' _ => k221 h2 h3 (by omega) V1.1 hD (zu_same _ _ _ _) (fun hb => b220_11 ⟨⟨by decide, by decide⟩, fun _ => hno hb, fun z => absurd rfl z⟩) (fun hr => b220_11 ⟨⟨by decide, by decide⟩, fun z => absurd z (by decide), fun _ => ?_⟩)))
  have h := h hr
  refine c222 (by omega) (fun d' _ => k222 V1.1 hD (b220_22 ?_))
  obtain ⟨S, hS1, hS2⟩ := zand_all hD x1
  rw [hS1] at h ⊢
  rw [Int.toNat_natCast] at h
  rw [V1.1.1]
  unfold grpOk at hr
  have hd2 : x2 = (x2.toNat : Int) := by omega
  have go : ∀ (v y3 : Int), v = ((lb.toNat : Nat) : Int) → y3 = ((if x2.toNat = dS D then 1 else x3.toNat : Nat) : Int) → Go sc d mt_220 47 [vr 1835, vi x1, vi x2, vi x3, vi ((lb.toNat : Nat) : Int)] [vi v, vi y3, vi x2, vi (S : Int), vr 1835] (z_cfg t, z_u I 1835 0 0, J) Q := by
    intro v y3 hv hy
    refine b220_47 (c223 (by omega) (fun d' _ => k223 (S := S) (p := x2.toNat) (q := if x2.toNat = dS D then 1 else x3.toNat) (l := lb.toNat) rfl hd2 hy hv (by omega) V1 hS2 (by omega) (by split <;> omega) (Bool.toNat_le lb) (fun I' f hV' => b220_50 ?_)))
    rw [dBarR_s]
    exact h I' f hV'
  have go37 : ∀ y3 : Int, y3 = ((if x2.toNat = dS D then 1 else x3.toNat : Nat) : Int) → Go sc d mt_220 37 [vr 1835, vi x1, vi x2, vi x3, vi ((lb.toNat : Nat) : Int)] [vi y3, vi x2, vi (S : Int), vr 1835] (z_cfg t, z_u I 1835 0 0, J) Q := by
    intro y3 hy
    refine b220_37 ?_
    cases lb with
    | false => exact ⟨⟨by decide, by decide⟩, fun _ => go 0 y3 rfl hy, fun z => absurd rfl z⟩
    | true => exact ⟨⟨by decide, by decide⟩, fun z => absurd z (by decide), fun _ => go 1 y3 rfl hy⟩
  exact ⟨h2, ⟨by omega, by omega⟩, fun c => go37 1 (by rw [if_pos (by omega)]; rfl), fun c => go37 x3 (by rw [if_neg (by omega)]; omega)⟩
theorem k145 {x1 x2 : Int} {lb : Bool} (h1 : inR x1) (h2 : inR x2) (hd : 3 ≤ d) (hU : RU t I D) (htb : t_b t = t_rb t) (hno : ¬ grpOk D x1 x2 → Q (.inr 0) (z_cfg (t_th t), z_zr I (aTh t), z_zr J (aTh t))) (h : grpOk D x1 x2 → ∀ (I' : Nat → Nat → Int), FB I I' → RU t I' D → Q (.inl (some (vi ((cSaf D x1.toNat x2.toNat lb.toNat (dAll D) : Nat) : Int)))) (z_cfg t, I', J)) : Go sc d mt_145 0 [vr 42, vi x1, vi x2, vi ((lb.toNat : Nat) : Int), vn, vn, vn] [] (z_cfg t, I, J) Q := by
  have hD := hU.2.2.2
  have hA := dAll_lt hD
  have hC : CD (t_b t) I D := by rw [htb]; exact hU.1
  refine b145_0 (c143 (by omega) (fun d' _ => k143 h1 h2 hC hD (fun hb => hno hb) (fun hr => b145_6 ?_)))
  have h := h hr
  refine c27 (by omega) (fun d' _ => k27 hC hD (b145_13 ?_))
  have loop : ∀ (m n : Nat) (I1 : Nat → Nat → Int), n + m = dAll D → FB I I1 → RU t I1 D → Go sc d mt_145 21 [vr 42, vi x1, vi x2, vi ((lb.toNat : Nat) : Int), vi (dAll D : Int), vi ((cSaf D x1.toNat x2.toNat lb.toNat n : Nat) : Int), vi ((n + 1 : Nat) : Int)] [] (z_cfg t, I1, J) Q := by
    intro m
    induction m with
    | zero =>
      intro n I1 hn f1 hU1
      have : n = dAll D := by omega
      subst this
      exact b145_21 ⟨⟨by omega, by omega⟩, ⟨by omega, by omega⟩, fun _ => h I1 f1 hU1, fun z => by omega⟩
    | succ m ih =>
      intro n I1 hn f1 hU1
      have go : ∀ v : Int, v = ((lb.toNat : Nat) : Int) → Go sc d mt_145 45 [vr 42, vi x1, vi x2, vi ((lb.toNat : Nat) : Int), vi (dAll D : Int), vi ((cSaf D x1.toNat x2.toNat lb.toNat n : Nat) : Int), vi ((n + 1 : Nat) : Int)] [vi v, vi x2, vi x1, vi ((n + 1 : Nat) : Int), vr 839] (z_cfg t, I1, J) Q := by
        intro v hv
        refine b145_45 (c33 (by omega) (fun d' _ => k33 (S := n + 1) (p := x1.toNat) (nb := x2.toNat) (l := lb.toNat) rfl (by omega) (by omega) hv (by omega) hU1 (by omega) (by omega) (by omega) (Bool.toNat_le lb) (fun I2 f2 hU2 => b145_48 ?_)))
        have := ih (n + 1) I2 (by omega) (f1.tr f2) hU2
        have es : cSaf D x1.toNat x2.toNat lb.toNat (n + 1) = cSaf D x1.toNat x2.toNat lb.toNat n + (decide (dBars D (n + 1) x1.toNat x2.toNat lb.toNat = 0)).toNat := rfl
        rw [es] at this
        have hbl := dBars_l (D := D) (n + 1) x1.toNat x2.toNat lb.toNat
        have h12 : 2 ^ dL D ≤ 2 ^ 12 := Nat.pow_le_pow_right (by omega) hD.2.2.2.1
        refine ⟨⟨by omega, by omega⟩, fun c => b145_54 ?_, fun c => b145_54 ?_⟩
        · rw [decide_eq_true (by omega : dBars D (n + 1) x1.toNat x2.toNat lb.toNat = 0)] at this
          rw [show ((cSaf D x1.toNat x2.toNat lb.toNat n : Nat) : Int) + 1 = ((cSaf D x1.toNat x2.toNat lb.toNat n + (true).toNat : Nat) : Int) by show _ = ((cSaf D x1.toNat x2.toNat lb.toNat n + 1 : Nat) : Int); omega, show ((n + 1 : Nat) : Int) + 1 = ((n + 1 + 1 : Nat) : Int) by omega]
          exact this
        · rw [decide_eq_false (by omega : ¬ dBars D (n + 1) x1.toNat x2.toNat lb.toNat = 0)] at this
          rw [show ((n + 1 : Nat) : Int) + 1 = ((n + 1 + 1 : Nat) : Int) by omega]
          exact this
      refine b145_21 ⟨⟨by omega, by omega⟩, ⟨by omega, by omega⟩, fun z => by omega, fun _ => ?_⟩
      cases lb with
      | false => exact ⟨⟨by decide, by decide⟩, fun _ => go 0 rfl, fun z => absurd rfl z⟩
      | true => exact ⟨⟨by decide, by decide⟩, fun z => absurd z (by decide), fun _ => go 1 rfl⟩
  exact loop (dAll D) 0 I (by omega) (FB.rf I) hU
theorem k230 {x1 x2 : Int} {lb : Bool} (h1 : inR x1) (h2 : inR x2) (hd : 4 ≤ d) (hV : RV I D ho lo) (hno : ¬ grpOk D x1 x2 → Q (.inl (some (vi 0))) (z_cfg t, z_u (z_u I 1835 0 0) 1835 0 1, J)) (h : grpOk D x1 x2 → ∀ (I' : Nat → Nat → Int), FR (z_u I 1835 0 0) I' → RV I' D ho lo → Q (.inl (some (vi ((cSaf D x1.toNat x2.toNat lb.toNat (dAll D) : Nat) : Int)))) (z_cfg t, I', J)) : Go sc d mt_230 0 [vr 1835, vi x1, vi x2, vi ((lb.toNat : Nat) : Int), vn, vn] [] (z_cfg t, I, J) Q := by
  have hD := hV.2.2
  have hA := dAll_lt hD
  have hS4 := hD.1
  have V1 := hV.f0 (v := 0)
  refine b230_0 (c221 (by omega) (fun d' _ => k221 h1 h2 (by omega) V1.1 hD (zu_same _ _ _ _) (fun hb => b230_11 ⟨⟨by decide, by decide⟩, fun _ => hno hb, fun z => absurd rfl z⟩) (fun hr => b230_11 ⟨⟨by decide, by decide⟩, fun z => absurd z (by decide), fun _ => ?_⟩)))
  have h := h hr
  unfold grpOk at hr
  have loop : ∀ (m n : Nat) (I1 : Nat → Nat → Int), n + m = dAll D → FR (z_u I 1835 0 0) I1 → RV I1 D ho lo → Go sc d mt_230 22 [vr 1835, vi x1, vi x2, vi ((lb.toNat : Nat) : Int), vi ((cSaf D x1.toNat x2.toNat lb.toNat n : Nat) : Int), vi ((n + 1 : Nat) : Int)] [] (z_cfg t, I1, J) Q := by
    intro m
    induction m with
    | zero =>
      intro n I1 hn f1 hV1
      have : n = dAll D := by omega
      subst this
      exact b230_22 (c222 (by omega) (fun d' _ => k222 hV1.1 hD (b230_28 ⟨⟨by omega, by omega⟩, ⟨by omega, by omega⟩, fun _ => h I1 f1 hV1, fun z => by omega⟩)))
    | succ m ih =>
      intro n I1 hn f1 hV1
      have go : ∀ (v y2 : Int), v = ((lb.toNat : Nat) : Int) → y2 = ((if x1.toNat = dS D then 1 else x2.toNat : Nat) : Int) → Go sc d mt_230 57 [vr 1835, vi x1, vi x2, vi ((lb.toNat : Nat) : Int), vi ((cSaf D x1.toNat x2.toNat lb.toNat n : Nat) : Int), vi ((n + 1 : Nat) : Int)] [vi v, vi y2, vi x1, vi ((n + 1 : Nat) : Int), vr 1835] (z_cfg t, I1, J) Q := by
        intro v y2 hv hy
        refine b230_57 (c223 (by omega) (fun d' _ => k223 (S := n + 1) (p := x1.toNat) (q := if x1.toNat = dS D then 1 else x2.toNat) (l := lb.toNat) rfl (by omega) hy hv (by omega) hV1 (by omega) (by omega) (by split <;> omega) (Bool.toNat_le lb) (fun I2 f2 hV2 => b230_60 ?_)))
        rw [dBarR_s]
        have := ih (n + 1) I2 (by omega) (f1.tr f2) hV2
        have es : cSaf D x1.toNat x2.toNat lb.toNat (n + 1) = cSaf D x1.toNat x2.toNat lb.toNat n + (decide (dBars D (n + 1) x1.toNat x2.toNat lb.toNat = 0)).toNat := rfl
        rw [es] at this
        have hbl := dBars_l (D := D) (n + 1) x1.toNat x2.toNat lb.toNat
        have h12 : 2 ^ dL D ≤ 2 ^ 12 := Nat.pow_le_pow_right (by omega) hD.2.2.2.1
        refine ⟨⟨by omega, by omega⟩, fun c => b230_66 ?_, fun c => b230_66 ?_⟩
        · rw [decide_eq_true (by omega : dBars D (n + 1) x1.toNat x2.toNat lb.toNat = 0)] at this
          rw [show ((cSaf D x1.toNat x2.toNat lb.toNat n : Nat) : Int) + 1 = ((cSaf D x1.toNat x2.toNat lb.toNat n + (true).toNat : Nat) : Int) by show _ = ((cSaf D x1.toNat x2.toNat lb.toNat n + 1 : Nat) : Int); omega, show ((n + 1 : Nat) : Int) + 1 = ((n + 1 + 1 : Nat) : Int) by omega]
          exact this
        · rw [decide_eq_false (by omega : ¬ dBars D (n + 1) x1.toNat x2.toNat lb.toNat = 0)] at this
          rw [show ((n + 1 : Nat) : Int) + 1 = ((n + 1 + 1 : Nat) : Int) by omega]
          exact this
      have go48 : ∀ y2 : Int, y2 = ((if x1.toNat = dS D then 1 else x2.toNat : Nat) : Int) → Go sc d mt_230 48 [vr 1835, vi x1, vi x2, vi ((lb.toNat : Nat) : Int), vi ((cSaf D x1.toNat x2.toNat lb.toNat n : Nat) : Int), vi ((n + 1 : Nat) : Int)] [vi y2, vi x1, vi ((n + 1 : Nat) : Int), vr 1835] (z_cfg t, I1, J) Q := by
        intro y2 hy
        refine b230_48 ?_
        cases lb with
        | false => exact ⟨⟨by decide, by decide⟩, fun _ => go 0 y2 rfl hy, fun z => absurd rfl z⟩
        | true => exact ⟨⟨by decide, by decide⟩, fun z => absurd z (by decide), fun _ => go 1 y2 rfl hy⟩
      refine b230_22 (c222 (by omega) (fun d' _ => k222 hV1.1 hD (b230_28 ?_)))
      rw [hV1.1.1]
      exact ⟨⟨by omega, by omega⟩, ⟨by omega, by omega⟩, fun z => by omega, fun _ => ⟨h1, ⟨by omega, by omega⟩, fun c => go48 1 (by rw [if_pos (by omega)]; rfl), fun c => go48 x2 (by rw [if_neg (by omega)]; omega)⟩⟩
  exact loop (dAll D) 0 _ (by omega) (FR.rf _) V1
theorem k153 {x1 x2 : Int} (h1 : inR x1) (h2 : inR x2) (hd : 1 ≤ d) (hR : RW I D) (hD : dOk D) (hK : KCo I D K) (hno : ¬ (∃ l, K = some l ∧ wayOk l x1 x2) → Q (.inr 0) (z_cfg (t_th t), z_zr I (aTh t), z_zr J (aTh t))) (h : ∀ l, K = some l → wayOk l x1 x2 → Q (.inl (some (vi (wayA D l x1 x2)))) (z_cfg t, I, J)) : Go sc d mt_153 0 [vr 42, vi x1, vi x2, vn] [] (z_cfg t, I, J) Q := by
  refine b153_0 (c148 hd (fun d' _ => k148 h2 ⟨by decide, by decide⟩ (fun hb => hno (fun ⟨l, _, z⟩ => hb z.2.1)) (fun hr => b153_6 ?_)))
  cases K with
  | none =>
    have hK : I 1672 0 = -1 := hK
    have hb : ¬ ∃ l, (none : Option (List (Nat × Nat × Nat))) = some l ∧ wayOk l x1 x2 := fun ⟨l, z, _⟩ => by cases z
    have e63 : Go sc d mt_153 63 [vr 42, vi x1, vi x2, vn] [] (z_cfg t, I, J) Q := by
      refine b153_63 ?_
      rw [x_th, hK]
      exact ⟨h1, fun _ => hno hb, fun c => ⟨⟨by decide, by decide⟩, fun z => by omega, fun _ => hno hb⟩⟩
    have e34 : Go sc d mt_153 34 [vr 42, vi x1, vi x2, vn] [] (z_cfg t, I, J) Q := by
      refine b153_34 ?_
      rw [hK]
      exact ⟨h1, fun _ => ⟨⟨by decide, by decide⟩, fun _ => e63, fun z => absurd rfl z⟩, fun _ => e63⟩
    rw [hK]
    exact ⟨h1, fun _ => ⟨⟨by decide, by decide⟩, fun _ => e34, fun z => absurd rfl z⟩, fun _ => e34⟩
  | some l =>
    obtain ⟨hX, hL⟩ : KC I D l ∧ LO D l := hK
    have hl2 := hL.1
    have nb : ¬ wayOk l x1 x2 → ¬ ∃ l', some l = some l' ∧ wayOk l' x1 x2 := fun hn ⟨l', z, y⟩ => by cases z; exact hn y
    have e63 : ¬ (x1 = -1 ∧ (x2 = 0 ∨ x2 = 3)) → Go sc d mt_153 63 [vr 42, vi x1, vi x2, vn] [] (z_cfg t, I, J) Q := by
      intro hq
      refine b153_63 ?_
      rw [x_th, hX.1]
      refine ⟨h1, fun c => hno (nb (fun w => by have := w.1; have := w.2.2; omega)), fun c => ⟨⟨by omega, by omega⟩, fun c2 => ?_, fun c2 => hno (nb (fun w => by have := w.1; omega))⟩⟩
      have h := h l rfl ⟨by omega, by omega, Or.inl (by omega)⟩
      have hc := c3_lt hD (hL.2 x1.toNat _ (lc_some (by omega)))
      have hll := hL.2 x1.toNat _ (lc_some (by omega))
      unfold wayA at h
      rw [if_neg (by omega)] at h
      refine c154 hd (fun d' _ => k154 (i := x1.toNat) (by omega) hX hL (by omega) (b153_97 ⟨h2, fun c3 => ?_, fun c3 => ?_⟩))
      · rw [if_neg (by omega), if_neg (by omega), if_neg (by omega)] at h
        rw [(c3_sh hc.1 hc.2.1 hc.2.2.1).2.2]
        exact c66 hd (fun d' _ => k66 rfl hR hD hll.2.2 (b153_115 h))
      · refine c155 hd (fun d' _ => k155 rfl hc.1 hc.2.1 hc.2.2.1 h2 (b153_123 ?_))
        by_cases q0 : x2 = 0
        · rw [if_pos q0] at h ⊢; exact h
        · rw [if_neg q0] at h ⊢
          by_cases q1 : x2 = 1
          · rw [if_pos q1] at h ⊢; exact h
          · rw [if_neg q1, if_pos (by omega)] at h
            rw [if_neg q1]
            exact h
    have e34 : ¬ (x1 = -1 ∧ x2 = 0) → Go sc d mt_153 34 [vr 42, vi x1, vi x2, vn] [] (z_cfg t, I, J) Q := by
      intro hq
      refine b153_34 ?_
      rw [hX.1, hX.2.1]
      refine ⟨h1, fun c => ⟨⟨by omega, by omega⟩, fun z => by omega, fun _ => ⟨h2, fun c2 => ?_, fun c2 => e63 (by omega)⟩⟩, fun c => e63 (by omega)⟩
      have h := h l rfl ⟨by omega, by omega, by omega⟩
      unfold wayA at h
      rw [if_pos c, if_neg (by omega)] at h
      exact h
    rw [hX.1]
    refine ⟨h1, fun c => ⟨⟨by omega, by omega⟩, fun z => by omega, fun _ => ⟨h2, fun c2 => ?_, fun c2 => e34 (by omega)⟩⟩, fun c => e34 (by omega)⟩
    have h := h l rfl ⟨by omega, by omega, by omega⟩
    unfold wayA at h
    rw [if_pos c, if_pos c2] at h
    exact h
theorem k157 {x1 x2 : Int} (h1 : inR x1) (h2 : inR x2) (hd : 3 ≤ d) (hC : CD (t_b t) I D) (hD : dOk D) (hK : KCo I D K) (hno : ¬ (∃ l, K = some l ∧ (0 ≤ x1 ∧ x1 ≤ (l.length : Int)) ∧ (0 ≤ x2 ∧ x2 < dT D)) → Q (.inr 0) (z_cfg (t_th t), z_zr I (aTh t), z_zr J (aTh t))) (h : ∀ l, K = some l → (0 ≤ x1 ∧ x1 ≤ (l.length : Int)) → (0 ≤ x2 ∧ x2 < dT D) → Q (.inl (some (vi ((lshore (aft D l x1.toNat) x2.toNat : Nat) : Int)))) (z_cfg t, I, J)) : Go sc d mt_157 0 [vr 42, vi x1, vi x2] [] (z_cfg t, I, J) Q := by
  have h8 := hD.2.1
  refine b157_0 (c136 (by omega) (fun d' _ => k136 h2 hC hD (fun hb => hno (fun ⟨l, _, z⟩ => hb z.2)) (fun hr => b157_5 ?_)))
  cases K with
  | none =>
    have hK : I 1672 0 = -1 := hK
    have hb := hno (fun ⟨l, z, _⟩ => by cases z)
    rw [x_th, hK]
    exact ⟨h1, fun _ => hb, fun c => ⟨⟨by decide, by decide⟩, fun _ => hb, fun z => by omega⟩⟩
  | some l =>
    obtain ⟨hX, hL⟩ : KC I D l ∧ LO D l := hK
    have hl2 := hL.1
    have nb : ¬ (0 ≤ x1 ∧ x1 ≤ (l.length : Int)) → ¬ ∃ l', some l = some l' ∧ (0 ≤ x1 ∧ x1 ≤ (l'.length : Int)) ∧ (0 ≤ x2 ∧ x2 < dT D) := fun hn ⟨l', z, y⟩ => by cases z; exact hn y.1
    rw [x_th, hX.1]
    refine ⟨h1, fun c => hno (nb (by omega)), fun c => ⟨⟨by omega, by omega⟩, fun c2 => hno (nb (by omega)), fun c2 => ?_⟩⟩
    exact c158 (by omega) (fun d' _ => k158 (n := x1.toNat) (k := x2.toNat) (by omega) (by omega) (by omega) hX hD hL (by omega) (by omega) (b157_40 (h l rfl (by omega) hr)))
theorem k161 {x1 x2 : Int} (h1 : inR x1) (h2 : inR x2) (hd : 3 ≤ d) (hC : CD (t_b t) I D) (hD : dOk D) (hK : KCo I D K) (hno : ¬ (∃ l, K = some l ∧ (0 ≤ x1 ∧ x1 < dT D) ∧ (x2 = 0 ∨ x2 = 1)) → Q (.inr 0) (z_cfg (t_th t), z_zr I (aTh t), z_zr J (aTh t))) (h : ∀ l, K = some l → (0 ≤ x1 ∧ x1 < dT D) → (x2 = 0 ∨ x2 = 1) → Q (.inl (some (vi ((if x2 = 0 then cCar l x1.toNat l.length else cAln D l x1.toNat l.length : Nat) : Int)))) (z_cfg t, I, J)) : Go sc d mt_161 0 [vr 42, vi x1, vi x2] [] (z_cfg t, I, J) Q := by
  have h8 := hD.2.1
  refine b161_0 (c136 (by omega) (fun d' _ => k136 h1 hC hD (fun hb => hno (fun ⟨l, _, z⟩ => hb z.1)) (fun hr => b161_5 ?_)))
  refine c148 (by omega) (fun d' _ => k148 h2 ⟨by decide, by decide⟩ (fun hb => hno (fun ⟨l, _, z⟩ => hb (by omega))) (fun hr2 => b161_11 ?_))
  cases K with
  | none =>
    have hK : I 1672 0 = -1 := hK
    rw [x_th, hK]
    exact ⟨⟨by decide, by decide⟩, fun _ => hno (fun ⟨l, z, _⟩ => by cases z), fun z => absurd rfl z⟩
  | some l =>
    obtain ⟨hX, hL⟩ : KC I D l ∧ LO D l := hK
    have hl2 := hL.1
    have h := h l rfl hr (by omega)
    rw [x_th, hX.1]
    refine ⟨⟨by omega, by omega⟩, fun z => by omega, fun _ => ⟨h2, fun c => ?_, fun c => ?_⟩⟩
    · rw [if_pos c] at h
      exact c162 (by omega) (fun d' _ => k162 (k := x1.toNat) (by omega) (by omega) hX hD hL (by omega) (b161_45 h))
    · rw [if_neg c] at h
      refine c27 (by omega) (fun d' _ => k27 hC hD (b161_60 ?_))
      exact c163 (by omega) (fun d' _ => k163 (k := x1.toNat) (by omega) rfl (by omega) hX hD hL (by omega) (b161_63 h))
end
