/-! ===== the reference: laws, size ===== -/
def FV (I I' : Nat → Nat → Int) : Prop := (∀ a, ¬ a = 2612 → ¬ a = 2644 → ¬ a = 1835 → ¬ a = 2676 → ¬ a = 2804 → ¬ a = 2740 → ¬ a = 2836 → ¬ a = 2868 → ¬ a = 2900 → ¬ a = 2932 → ¬ a = 2708 → ¬ a = 2996 → ¬ a = 3028 → ¬ a = 2772 → ¬ a = 1972 → ¬ a = 2004 → ¬ a = 3252 → I' a = I a) ∧ ∀ k, ¬ k = 0 → ¬ k = 52 → ¬ k = 54 → ¬ k = 55 → ¬ k = 66 → ¬ k = 67 → ¬ k = 78 → ¬ k = 79 → ¬ k = 80 → I' 1835 k = I 1835 k
theorem FV.rf (I : Nat → Nat → Int) : FV I I := ⟨fun _ _ _ _ _ _ _ _ _ _ _ _ _ _ _ _ _ _ => rfl, fun _ _ _ _ _ _ _ _ _ _ => rfl⟩
theorem FV.tr {I I1 I2 : Nat → Nat → Int} (h : FV I I1) (h' : FV I1 I2) : FV I I2 := ⟨fun a h1 h2 h3 h4 h5 h6 h7 h8 h9 h10 h11 h12 h13 h14 h15 h16 h17 => (h'.1 a h1 h2 h3 h4 h5 h6 h7 h8 h9 h10 h11 h12 h13 h14 h15 h16 h17).trans (h.1 a h1 h2 h3 h4 h5 h6 h7 h8 h9 h10 h11 h12 h13 h14 h15 h16 h17), fun k h1 h2 h3 h4 h5 h6 h7 h8 h9 => (h'.2 k h1 h2 h3 h4 h5 h6 h7 h8 h9).trans (h.2 k h1 h2 h3 h4 h5 h6 h7 h8 h9)⟩
theorem FV.fy {I I' : Nat → Nat → Int} (h : FY I I') : FV I I' := by
  obtain ⟨Im, hx, hf⟩ := h
  exact ⟨fun a h1 h2 h3 h4 h5 h6 h7 h8 h9 h10 h11 h12 h13 h14 _ _ _ => (hf a h14).trans (hx.1 a h1 h2 h3 h4 h5 h6 h7 h8 h9 h10 h11 h12 h13), fun k _ _ h3 h4 h5 h6 _ _ _ => by rw [hf 1835 (by decide)]; exact hx.2 k h3 h4 h5 h6⟩
theorem FY.k {I I' : Nat → Nat → Int} (h : FY I I') : ∀ k, ¬ k = 54 → ¬ k = 55 → ¬ k = 66 → ¬ k = 67 → I' 1835 k = I 1835 k := by
  obtain ⟨Im, hx, hf⟩ := h
  intro k h3 h4 h5 h6
  rw [hf 1835 (by decide)]
  exact hx.2 k h3 h4 h5 h6
theorem FY.r {I I' : Nat → Nat → Int} (h : FY I I') (a : Nat) (h1 : ¬ a = 2612) (h2 : ¬ a = 2644) (h3 : ¬ a = 1835) (h4 : ¬ a = 2676) (h5 : ¬ a = 2804) (h6 : ¬ a = 2740) (h7 : ¬ a = 2836) (h8 : ¬ a = 2868) (h9 : ¬ a = 2900) (h10 : ¬ a = 2932) (h11 : ¬ a = 2708) (h12 : ¬ a = 2996) (h13 : ¬ a = 3028) (h14 : ¬ a = 2772) : I' a = I a := by
  obtain ⟨Im, hx, hf⟩ := h
  exact (hf a h14).trans (hx.1 a h1 h2 h3 h4 h5 h6 h7 h8 h9 h10 h11 h12 h13)
theorem FV.f {I : Nat → Nat → Int} {k : Nat} {v : Int} (h : k = 0 ∨ k = 52 ∨ k = 67 ∨ k = 78 ∨ k = 79 ∨ k = 80) : FV I (z_u I 1835 k v) := ⟨fun a _ _ h3 _ _ _ _ _ _ _ _ _ _ _ _ _ _ => zu_ne h3, fun q _ _ _ _ _ _ _ _ _ => zu_nk (by omega)⟩
theorem FV.w {I : Nat → Nat → Int} {a k : Nat} {v : Int} (h : a = 1972 ∨ a = 2004 ∨ a = 3252) : FV I (z_u I a k v) := ⟨fun b _ _ _ _ _ _ _ _ _ _ _ _ _ _ h15 h16 h17 => zu_ne (by omega), fun q _ _ _ _ _ _ _ _ _ => by rw [zu_ne (by omega)]⟩
/-- the same, the row of sizes as it was -/
def FVl (I I' : Nat → Nat → Int) : Prop := FV I I' ∧ I' 3252 = I 3252
theorem FVl.rf (I : Nat → Nat → Int) : FVl I I := ⟨FV.rf I, rfl⟩
theorem FVl.tr {I I1 I2 : Nat → Nat → Int} (h : FVl I I1) (h' : FVl I1 I2) : FVl I I2 := ⟨h.1.tr h'.1, h'.2.trans h.2⟩
theorem FVl.fy {I I' : Nat → Nat → Int} (h : FY I I') : FVl I I' := ⟨FV.fy h, h.r 3252 (by decide) (by decide) (by decide) (by decide) (by decide) (by decide) (by decide) (by decide) (by decide) (by decide) (by decide) (by decide) (by decide) (by decide)⟩
theorem FVl.f {I : Nat → Nat → Int} {k : Nat} {v : Int} (h : k = 0 ∨ k = 52 ∨ k = 67 ∨ k = 78 ∨ k = 79 ∨ k = 80) : FVl I (z_u I 1835 k v) := ⟨FV.f h, zu_ne (by decide)⟩
section
variable {sc : mS} {d : Nat} {t : zT} {I J : Nat → Nat → Int} {Q : zR → zW → Prop} {D : tD} {ho lo : Nat}
theorem RV.sho {k : Nat} (h : RV I D ho lo) : RV (z_u I 1972 0 (k : Int)) D k lo := by
  obtain ⟨⟨a1, a2, a3, a4, a5, a6, a7, a8, a9, a10⟩, hK, hD⟩ := h
  have f : ∀ a, ¬ a = 1972 → z_u I 1972 0 (k : Int) a = I a := fun a ha => zu_ne ha
  refine ⟨?_, fun S p q l z1 z2 z3 z4 z5 => by rw [f 2612 (by decide)]; exact hK S p q l z1 z2 z3 z4 z5, hD⟩
  unfold RD
  rw [f 1835 (by decide), f 1876 (by decide), f 1908 (by decide), f 1940 (by decide), f 2004 (by decide), f 2036 (by decide), f 2070 (by decide), f 2100 (by decide), f 2132 (by decide), f 2164 (by decide)]
  refine ⟨a1, a2, a3, a4, a5, a6, fun b hb => ⟨?_, (a7 b hb).2⟩, a8, a9, a10⟩
  rw [zu_at]
  by_cases c : b = 0
  · rw [if_pos c, if_pos c]
  · rw [if_neg c, if_neg c]
    have := (a7 b hb).1
    rw [if_neg c] at this
    exact this
theorem RV.slo {k : Nat} (h : RV I D ho lo) : RV (z_u I 2004 0 (k : Int)) D ho k := by
  obtain ⟨⟨a1, a2, a3, a4, a5, a6, a7, a8, a9, a10⟩, hK, hD⟩ := h
  have f : ∀ a, ¬ a = 2004 → z_u I 2004 0 (k : Int) a = I a := fun a ha => zu_ne ha
  refine ⟨?_, fun S p q l z1 z2 z3 z4 z5 => by rw [f 2612 (by decide)]; exact hK S p q l z1 z2 z3 z4 z5, hD⟩
  unfold RD
  rw [f 1835 (by decide), f 1876 (by decide), f 1908 (by decide), f 1940 (by decide), f 1972 (by decide), f 2036 (by decide), f 2070 (by decide), f 2100 (by decide), f 2132 (by decide), f 2164 (by decide)]
  refine ⟨a1, a2, a3, a4, a5, a6, fun b hb => ⟨(a7 b hb).1, ?_, (a7 b hb).2.2⟩, a8, a9, a10⟩
  rw [zu_at]
  by_cases c : b = 0
  · rw [if_pos c, if_pos c]
  · rw [if_neg c, if_neg c]
    have := (a7 b hb).2.1
    rw [if_neg c] at this
    exact this
theorem RV.w {a k : Nat} {v : Int} (h : RV I D ho lo) (ha : a = 3252) : RV (z_u I a k v) D ho lo := h.row (A := a) (by omega) (fun b hb => zu_ne hb)
theorem k263 (hd : 8 ≤ d) (hV : RV I D (dHo D 0) (dLo D 0)) (hho : dHo D 0 < 2147483648) (hlo : dLo D 0 < 2147483648)
    (h : ∀ (I' : Nat → Nat → Int), FVl I I' → RV I' D (dHo D 0) (dLo D 0) → I' 1835 52 = -1 → I' 1835 67 = 0 → I' 1835 0 = I 1835 0 → ((lwS D (dL D)).2.2 = true → I' 1835 79 = ((lwS D (dL D)).1 : Int) ∧ I' 1835 80 = ((lwS D (dL D)).2.1 : Int)) → Q (.inl (some (vi (if (lwS D (dL D)).2.2 = true then 1 else 0)))) (z_cfg t, I', J)) :
    Go sc d mt_263 0 [vr 1835, vn, vn, vn, vn] [] (z_cfg t, I, J) Q := by
  have hD := hV.2.2
  have hL := hD.2.2.2.1
  have fin : ∀ (l : Nat) (I1 : Nat → Nat → Int) (x1 x3 : Int) (v4 : zV), (lwS D l) = (lwS D (dL D)) ∨ ((lwS D l).2.2 = false ∧ (lwS D (dL D)).2.2 = false) → FVl I I1 → RV I1 D (dHo D 0) (dLo D 0) → I1 1835 0 = I 1835 0 → ((lwS D l).2.2 = true → I1 1835 79 = ((lwS D l).1 : Int) ∧ I1 1835 80 = ((lwS D l).2.1 : Int)) → Go sc d mt_263 124 [vr 1835, vi x1, vi (if (lwS D l).2.2 = true then 1 else 0), vi x3, v4] [] (z_cfg t, I1, J) Q := by
    intro l I1 x1 x3 v4 hl f1 hV1 h0 hf
    refine b263_124 ⟨by split; exact Or.inr rfl; exact Or.inl rfl, ?_⟩
    have e0 : (lwS D l).2.2 = (lwS D (dL D)).2.2 := by
      rcases hl with q | ⟨q1, q2⟩
      · rw [q]
      · rw [q1, q2]
    rw [e0]
    refine h _ (f1.tr ((FVl.f (k := 52) (by omega)).tr (FVl.f (k := 67) (by omega)))) ((hV1.fld (by omega)).fld (by omega)) (by rw [zu_nk (by decide : ¬ 52 = 67), zu_same]) (zu_same _ _ _ _) (by rw [zu_nk (by decide : ¬ 0 = 67), zu_nk (by decide : ¬ 0 = 52)]; exact h0) (fun hg => ?_)
    rw [zu_nk (by decide : ¬ 79 = 67), zu_nk (by decide : ¬ 79 = 52), zu_nk (by decide : ¬ 80 = 67), zu_nk (by decide : ¬ 80 = 52)]
    rcases hl with q | ⟨-, q2⟩
    · rw [← q]; exact hf (by rw [e0]; exact hg)
    · rw [q2] at hg; cases hg
  have loop : ∀ (m l : Nat) (I1 : Nat → Nat → Int) (v4 : zV), l + m = dL D → FVl I I1 → RV I1 D (dHo D 0) (dLo D 0) → I1 1835 0 = I 1835 0 → (-2 ≤ aw D (-1) ∧ aw D (-1) ≤ 2000) → ((lwS D l).2.2 = true → I1 1835 79 = ((lwS D l).1 : Int) ∧ I1 1835 80 = ((lwS D l).2.1 : Int)) → Go sc d mt_263 38 [vr 1835, vi (aw D (-1)), vi (if (lwS D l).2.2 = true then 1 else 0), vi (l : Int), v4] [] (z_cfg t, I1, J) Q := by
    intro m
    induction m with
    | zero =>
      intro l I1 v4 hl f1 hV1 h0 hw hf
      have e4 : I1 1835 4 = dL D := hV1.1.2.2.2.1
      refine b263_38 ?_
      rw [e4]
      exact ⟨⟨by omega, by omega⟩, ⟨by omega, by omega⟩, fun z => by omega, fun _ => fin l I1 _ _ _ (Or.inl (by rw [show l = dL D by omega])) f1 hV1 h0 hf⟩
    | succ m ih =>
      intro l I1 v4 hl f1 hV1 h0 hw hf
      have e4 : I1 1835 4 = dL D := hV1.1.2.2.2.1
      have hb := lwS_lt D l (by omega)
      refine b263_38 ?_
      rw [e4]
      cases hg : (lwS D l).2.2 with
      | false =>
        have hg2 := lwS_bad hg (dL D - l)
        rw [show l + (dL D - l) = dL D by omega] at hg2
        have := fin l I1 (aw D (-1)) (l : Int) v4 (Or.inr ⟨hg, hg2⟩) f1 hV1 h0 hf
        rw [hg, if_neg (by decide)] at this
        rw [if_neg (by decide)]
        exact ⟨⟨by omega, by omega⟩, ⟨by omega, by omega⟩, fun _ => ⟨⟨by decide, by decide⟩, fun _ => this, fun z => absurd rfl z⟩, fun z => by omega⟩
      | true =>
        rw [if_pos rfl]
        refine ⟨⟨by omega, by omega⟩, ⟨by omega, by omega⟩, fun _ => ⟨⟨by decide, by decide⟩, fun z => absurd z (by decide), fun _ => ?_⟩, fun z => by omega⟩
        have hV2 : RV (z_u I1 1835 52 (l : Int)) D (dHo D 0) (dLo D 0) := hV1.fld (by omega)
        refine c184 (by omega) (fun d' _ => k184 hV2.1 hD (fun r hr => b263_60 ?_))
        refine c264 (by omega) (fun d' _ => k264 rfl (by omega) hV2 hr (Or.inr ⟨by omega, by omega⟩) (zu_same _ _ _ _) hho hlo (fun I3 f3 hV3 hB3 _ => ?_))
        have hin := ansG_in (D := D) hB3.2.1
        have ea : ansG D (gAll D (acts D (l : Int)) (dHo D 0) (dLo D 0)) = aw D (l : Int) := rfl
        rw [ea] at hin ⊢
        have k79 : I3 1835 79 = I1 1835 79 := by rw [f3.k 79 (by decide) (by decide) (by decide) (by decide), zu_nk (by decide : ¬ 79 = 52)]
        have k80 : I3 1835 80 = I1 1835 80 := by rw [f3.k 80 (by decide) (by decide) (by decide) (by decide), zu_nk (by decide : ¬ 80 = 52)]
        have k0 : I3 1835 0 = I 1835 0 := by rw [f3.k 0 (by decide) (by decide) (by decide) (by decide), zu_nk (by decide : ¬ 0 = 52)]; exact h0
        have F3 : FVl I I3 := f1.tr ((FVl.f (k := 52) (by omega)).tr (FVl.fy f3))
        have hs := lwS_s hg
        have hz : zshl 1 (l : Int) = ((2 ^ l : Nat) : Int) := by
          have := zshl_n (x := 1) (k := l) (by omega) (by have := Nat.pow_le_pow_right (n := 2) (by decide) (show l ≤ 12 by omega); omega)
          rw [Nat.one_mul] at this
          exact this
        have hp2 : 2 ^ l ≤ 2 ^ 12 := Nat.pow_le_pow_right (by decide) (by omega)
        have go77 : ∀ x2 : Int, x2 = (if (lwS D (l + 1)).2.2 = true then 1 else 0) → Go sc d mt_263 77 [vr 1835, vi (aw D (-1)), vi 1, vi (l : Int), vi (aw D (l : Int))] [vi x2] (z_cfg t, I3, J) Q := by
          intro x2 hx2
          have go96 : ∀ I4 : Nat → Nat → Int, FVl I3 I4 → RV I4 D (dHo D 0) (dLo D 0) → I4 1835 0 = I 1835 0 → I4 1835 79 = ((if aw D (l : Int) = aw D (-1) then (lwS D l).1 ||| 2 ^ l else (lwS D l).1 : Nat) : Int) → I4 1835 80 = ((lwS D l).2.1 : Int) → Go sc d mt_263 96 [vr 1835, vi (aw D (-1)), vi x2, vi (l : Int), vi (aw D (l : Int))] [] (z_cfg t, I4, J) Q := by
            intro I4 f4 hV4 h04 h79 h80
            have next : ∀ I5 : Nat → Nat → Int, FVl I4 I5 → RV I5 D (dHo D 0) (dLo D 0) → I5 1835 0 = I 1835 0 → I5 1835 79 = I4 1835 79 → I5 1835 80 = ((if aw D (-1) = -1 ∧ 0 ≤ aw D (l : Int) then (lwS D l).2.1 ||| 2 ^ l else (lwS D l).2.1 : Nat) : Int) → Go sc d mt_263 118 [vr 1835, vi (aw D (-1)), vi x2, vi (l : Int), vi (aw D (l : Int))] [] (z_cfg t, I5, J) Q := by
              intro I5 f5 hV5 h05 h795 h805
              refine b263_118 ?_
              rw [show (l : Int) + 1 = ((l + 1 : Nat) : Int) by omega, hx2]
              refine ih (l + 1) I5 _ (by omega) (F3.tr (f4.tr f5)) hV5 h05 hw (fun _ => ?_)
              rw [hs]
              exact ⟨by rw [h795]; exact h79, h805⟩
            refine b263_96 ⟨⟨by omega, by omega⟩, fun c => ⟨⟨by omega, by omega⟩, fun c2 => ?_, fun c2 => ?_⟩, fun c => ?_⟩
            · exact next I4 (FVl.rf I4) hV4 h04 rfl (by rw [if_neg (by omega)]; exact h80)
            · rw [h80, hz, zor_n (by omega) (by omega)]
              exact next _ (FVl.f (by omega)) (hV4.fld (by omega)) (by rw [zu_nk (by decide : ¬ 0 = 80)]; exact h04) (zu_nk (by decide)) (by rw [zu_same, if_pos ⟨c, by omega⟩])
            · exact next I4 (FVl.rf I4) hV4 h04 rfl (by rw [if_neg (fun z => c z.1)]; exact h80)
          refine b263_77 ⟨⟨by omega, by omega⟩, ⟨by omega, by omega⟩, fun c => ?_, fun c => ?_⟩
          · rw [k79, (hf hg).1, hz, zor_n (by omega) (by omega)]
            exact go96 _ (FVl.f (by omega)) (hV3.fld (by omega)) (by rw [zu_nk (by decide : ¬ 0 = 79)]; exact k0) (by rw [zu_same, if_pos c]) (by rw [zu_nk (by decide : ¬ 80 = 79), k80]; exact (hf hg).2)
          · exact go96 I3 (FVl.rf I3) hV3 k0 (by rw [if_neg c, k79]; exact (hf hg).1) (by rw [k80]; exact (hf hg).2)
        refine b263_63 ⟨⟨by omega, by omega⟩, fun c => go77 0 ?_, fun c => go77 1 ?_⟩
        · rw [hs]
          show 0 = if decide (¬ aw D (l : Int) = -2) = true then (1 : Int) else 0
          rw [if_neg (fun z => (of_decide_eq_true z) c)]
        · rw [hs]
          show 1 = if decide (¬ aw D (l : Int) = -2) = true then (1 : Int) else 0
          rw [if_pos (decide_eq_true c)]
  refine b263_0 ?_
  have hV1 : RV (z_u (z_u (z_u I 1835 79 0) 1835 80 0) 1835 52 (-1)) D (dHo D 0) (dLo D 0) := ((hV.fld (by omega)).fld (by omega)).fld (by omega)
  refine c184 (by omega) (fun d' _ => k184 hV1.1 hD (fun r hr => b263_20 ?_))
  refine c264 (by omega) (fun d' _ => k264 (w := -1) rfl (by omega) hV1 hr (Or.inl rfl) (zu_same _ _ _ _) hho hlo (fun I2 f2 hV2 hB2 _ => ?_))
  have hin := ansG_in (D := D) hB2.2.1
  have ea : ansG D (gAll D (acts D (-1)) (dHo D 0) (dLo D 0)) = aw D (-1) := rfl
  rw [ea] at hin ⊢
  have F2 : FVl I I2 := (FVl.f (k := 79) (by omega)).tr ((FVl.f (k := 80) (by omega)).tr ((FVl.f (k := 52) (by omega)).tr (FVl.fy f2)))
  have st : ∀ x2 : Int, x2 = (if (lwS D 0).2.2 = true then 1 else 0) → Go sc d mt_263 35 [vr 1835, vi (aw D (-1)), vn, vn, vn] [vi x2] (z_cfg t, I2, J) Q := by
    intro x2 hx2
    refine b263_35 ?_
    rw [hx2]
    exact loop (dL D) 0 I2 _ (by omega) F2 hV2 (by rw [f2.k 0 (by decide) (by decide) (by decide) (by decide), zu_nk (by decide : ¬ 0 = 52), zu_nk (by decide : ¬ 0 = 80), zu_nk (by decide : ¬ 0 = 79)]) hin (fun _ => ⟨by rw [f2.k 79 (by decide) (by decide) (by decide) (by decide), zu_nk (by decide : ¬ 79 = 52), zu_nk (by decide : ¬ 79 = 80), zu_same]; rfl, by rw [f2.k 80 (by decide) (by decide) (by decide) (by decide), zu_nk (by decide : ¬ 80 = 52), zu_same]; rfl⟩)
  refine b263_23 ⟨⟨by omega, by omega⟩, fun c => st 0 ?_, fun c => st 1 ?_⟩
  · show 0 = if decide (¬ aw D (-1) = -2) = true then (1 : Int) else 0
    rw [if_neg (fun z => (of_decide_eq_true z) c)]
  · show 1 = if decide (¬ aw D (-1) = -2) = true then (1 : Int) else 0
    rw [if_pos (decide_eq_true c)]
/-- what laws has found out -/
def LK (I : Nat → Nat → Int) (D : tD) : Prop := I 1835 78 = 0 ∨ (I 1835 78 = 1 ∧ (lwS D (dL D)).2.2 = true ∧ I 1835 79 = ((lwS D (dL D)).1 : Int) ∧ I 1835 80 = ((lwS D (dL D)).2.1 : Int)) ∨ (I 1835 78 = 2 ∧ (lwS D (dL D)).2.2 = false)
theorem k262 {x1 : Int} (hx : inR x1) (hd : 9 ≤ d) (hV : RV I D (dHo D 0) (dLo D 0)) (hho : dHo D 0 < 2147483648) (hlo : dLo D 0 < 2147483648) (hK : LK I D) (h52 : I 1835 52 = -1) (h67 : I 1835 67 = 0 ∨ (I 1835 67 = 1 ∧ RK I D (dHo D 0) (dLo D 0)))
    (hno : ¬ (x1 = 0 ∨ x1 = 1) → Q (.inl (some (vi 0))) (z_cfg t, z_u (z_u I 1835 0 0) 1835 0 1, J))
    (h : (x1 = 0 ∨ x1 = 1) → ∀ (I1 : Nat → Nat → Int), FVl I I1 → RV I1 D (dHo D 0) (dLo D 0) → LK I1 D → I1 1835 52 = -1 → (I1 1835 67 = 0 ∨ (I1 1835 67 = 1 ∧ RK I1 D (dHo D 0) (dLo D 0))) → I1 1835 0 = 0 → Q (.inl (some (vi (lawA D x1)))) (z_cfg t, I1, J)) :
    Go sc d mt_262 0 [vr 1835, vi x1] [] (z_cfg t, I, J) Q := by
  have end52 : ∀ I1 : Nat → Nat → Int, (x1 = 0 ∨ x1 = 1) → FVl I I1 → RV I1 D (dHo D 0) (dLo D 0) → LK I1 D → ¬ I1 1835 78 = 0 → I1 1835 52 = -1 → (I1 1835 67 = 0 ∨ (I1 1835 67 = 1 ∧ RK I1 D (dHo D 0) (dLo D 0))) → I1 1835 0 = 0 → Go sc d mt_262 52 [vr 1835, vi x1] [] (z_cfg t, I1, J) Q := by
    intro I1 hxx f1 hV1 hK1 h78 h521 h671 h01
    have hq := h hxx I1 f1 hV1 hK1 h521 h671 h01
    unfold lawA at hq
    refine b262_52 ?_
    rcases hK1 with z | ⟨z, hg, a, b⟩ | ⟨z, hg⟩
    · exact absurd z h78
    · rw [hg, if_neg (by decide)] at hq
      rw [z, a, b]
      refine ⟨⟨by decide, by decide⟩, fun c => absurd c (by decide), fun _ => ⟨hx, fun c => ?_, fun c => ?_⟩⟩
      · rw [if_pos c] at hq; exact hq
      · rw [if_neg c] at hq; exact hq
    · rw [hg, if_pos rfl] at hq
      rw [z]
      exact ⟨⟨by decide, by decide⟩, fun _ => hq, fun c => absurd rfl c⟩
  have good : (x1 = 0 ∨ x1 = 1) → Go sc d mt_262 15 [vr 1835, vi x1] [vr 1835] (z_cfg t, z_u I 1835 0 0, J) Q := by
    intro hxx
    refine b262_15 (b262_20 (c189 (by omega) (fun d' _ => k189y rfl (zu_same _ _ _ _) (b262_24 ?_))))
    have e78 : z_u I 1835 0 0 1835 78 = I 1835 78 := zu_nk (by decide)
    have e0 : ∀ k, ¬ k = 0 → z_u I 1835 0 0 1835 k = I 1835 k := fun k hk => zu_nk hk
    rw [e78]
    have r78 : inR (I 1835 78) := by
      rcases hK with z | ⟨z, -⟩ | ⟨z, -⟩ <;> rw [z] <;> exact ⟨by decide, by decide⟩
    refine ⟨⟨by decide, by decide⟩, fun z => absurd z (by decide), fun _ => ⟨r78, fun c => ?_, fun c => ?_⟩⟩
    · refine c263 (by omega) (fun d' _ => k263 (by omega) hV.f0 hho hlo (fun I2 f2 hV2 h522 h672 h02 hf2 => b262_41 ?_))
      have F2 : FVl I I2 := (FVl.f (k := 0) (by omega)).tr f2
      have z02 : I2 1835 0 = 0 := by rw [h02, zu_same]
      cases hg : (lwS D (dL D)).2.2 with
      | true =>
        rw [if_pos rfl]
        refine ⟨⟨by decide, by decide⟩, fun z => absurd z (by decide), fun _ => b262_49 ?_⟩
        refine end52 _ hxx (F2.tr (FVl.f (by omega))) (hV2.fld (by omega)) (Or.inr (Or.inl ⟨zu_same _ _ _ _, hg, by rw [zu_nk (by decide : ¬ 79 = 78)]; exact (hf2 hg).1, by rw [zu_nk (by decide : ¬ 80 = 78)]; exact (hf2 hg).2⟩)) (by rw [zu_same]; decide) (by rw [zu_nk (by decide : ¬ 52 = 78)]; exact h522) (Or.inl (by rw [zu_nk (by decide : ¬ 67 = 78)]; exact h672)) (by rw [zu_nk (by decide : ¬ 0 = 78)]; exact z02)
      | false =>
        rw [if_neg (by decide)]
        refine ⟨⟨by decide, by decide⟩, fun _ => b262_49 ?_, fun z => absurd rfl z⟩
        refine end52 _ hxx (F2.tr (FVl.f (by omega))) (hV2.fld (by omega)) (Or.inr (Or.inr ⟨zu_same _ _ _ _, hg⟩)) (by rw [zu_same]; decide) (by rw [zu_nk (by decide : ¬ 52 = 78)]; exact h522) (Or.inl (by rw [zu_nk (by decide : ¬ 67 = 78)]; exact h672)) (by rw [zu_nk (by decide : ¬ 0 = 78)]; exact z02)
    · refine end52 _ hxx (FVl.f (by omega)) hV.f0 ?_ (by rw [e78]; exact c) (by rw [e0 52 (by decide)]; exact h52) (h67_f0 h67) (zu_same _ _ _ _)
      unfold LK
      rw [e0 78 (by decide), e0 79 (by decide), e0 80 (by decide)]
      exact hK
  refine b262_0 ⟨hx, fun c => good (Or.inl c), fun c => ⟨fun c2 => good (Or.inr c2), fun c2 => ?_⟩⟩
  refine b262_20 (c189 (by omega) (fun d' _ => k189n rfl (zu_same _ _ _ _) (b262_24 ⟨⟨by decide, by decide⟩, fun _ => hno (by omega), fun z => absurd rfl z⟩)))
end
