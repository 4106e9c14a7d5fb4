/-! ===== the reference: size ===== -/
section
variable {sc : mS} {d : Nat} {t : zT} {I J : Nat → Nat → Int} {Q : zR → zW → Prop} {D : tD} {ho lo : Nat}
theorem k266 (hd : 8 ≤ d) (hV : RV I D ho (dLo D 0)) (hlo : dLo D 0 < 2147483648) (h52 : I 1835 52 = -1)
    (h : ∀ (I' : Nat → Nat → Int) (k : Nat), FV I I' → RV I' D k (dLo D 0) → I' 1835 52 = -1 → I' 1835 0 = I 1835 0 → I' 1835 78 = I 1835 78 → I' 1835 79 = I 1835 79 → I' 1835 80 = I 1835 80 → I' 2004 = I 2004 → I' 3252 = I 3252 → Q (.inl (some (vi (lhA D 8 1)))) (z_cfg t, I', J)) :
    Go sc d mt_266 0 [vr 1835, vn, vn] [] (z_cfg t, I, J) Q := by
  have hD := hV.2.2
  have loop : ∀ (m k : Nat) (I1 : Nat → Nat → Int) (ho1 : Nat) (v2 : zV), k + m = 9 → FV I I1 → RV I1 D ho1 (dLo D 0) → (∀ q, q = 52 ∨ q = 0 ∨ q = 78 ∨ q = 79 ∨ q = 80 → I1 1835 q = I 1835 q) → I1 2004 = I 2004 → I1 3252 = I 3252 → lhA D 8 1 = lhA D m k → Go sc d mt_266 2 [vr 1835, vi (k : Int), v2] [] (z_cfg t, I1, J) Q := by
    intro m
    induction m with
    | zero =>
      intro k I1 ho1 v2 hk f1 hV1 hq h20 h32 he
      have he : lhA D 8 1 = -1 := he
      have := h I1 ho1 f1 hV1 (by rw [hq 52 (by omega)]; exact h52) (hq 0 (by omega)) (hq 78 (by omega)) (hq 79 (by omega)) (hq 80 (by omega)) h20 h32
      rw [he] at this
      exact b266_2 ⟨⟨by omega, by omega⟩, fun _ => this, fun z => by omega⟩
    | succ m ih =>
      intro k I1 ho1 v2 hk f1 hV1 hq h20 h32 he
      have he : lhA D 8 1 = if ag D (-1) k (dLo D 0) = -2 then -2 else if 0 ≤ ag D (-1) k (dLo D 0) then (k : Int) else lhA D m (k + 1) := he
      refine b266_2 ⟨⟨by omega, by omega⟩, fun z => by omega, fun _ => ?_⟩
      have hV2 : RV (z_u I1 1972 0 (k : Int)) D k (dLo D 0) := hV1.sho
      refine c184 (by omega) (fun d' _ => k184 hV2.1 hD (fun r hr => b266_20 ?_))
      refine c264 (by omega) (fun d' _ => k264 (w := -1) rfl (by omega) hV2 hr (Or.inl rfl) (by rw [zu_ne (by decide : ¬ 1835 = 1972), hq 52 (by omega)]; exact h52) (by omega) hlo (fun I3 f3 hV3 hB3 _ => ?_))
      have hin := ansG_in (D := D) hB3.2.1
      have ea : ansG D (gAll D (acts D (-1)) k (dLo D 0)) = ag D (-1) k (dLo D 0) := rfl
      rw [ea] at hin ⊢
      have F3 : FV I I3 := f1.tr ((FV.w (by omega)).tr (FV.fy f3))
      have q3 : ∀ q, q = 52 ∨ q = 0 ∨ q = 78 ∨ q = 79 ∨ q = 80 → I3 1835 q = I 1835 q := fun q h' => by rw [f3.k q (by omega) (by omega) (by omega) (by omega), zu_ne (by decide : ¬ 1835 = 1972)]; exact hq q h'
      have e20 : I3 2004 = I 2004 := by rw [f3.r 2004 (by decide) (by decide) (by decide) (by decide) (by decide) (by decide) (by decide) (by decide) (by decide) (by decide) (by decide) (by decide) (by decide) (by decide), zu_ne (by decide : ¬ 2004 = 1972)]; exact h20
      have e32 : I3 3252 = I 3252 := by rw [f3.r 3252 (by decide) (by decide) (by decide) (by decide) (by decide) (by decide) (by decide) (by decide) (by decide) (by decide) (by decide) (by decide) (by decide) (by decide), zu_ne (by decide : ¬ 3252 = 1972)]; exact h32
      have hfin := h I3 k F3 hV3 (by rw [q3 52 (by omega)]; exact h52) (q3 0 (by omega)) (q3 78 (by omega)) (q3 79 (by omega)) (q3 80 (by omega)) e20 e32
      refine b266_23 ⟨⟨by omega, by omega⟩, fun c => ?_, fun c => ⟨fun c2 => ?_, fun c2 => ?_⟩⟩
      · rw [he, if_pos c] at hfin; exact hfin
      · rw [if_neg c, if_neg (by omega)] at he
        rw [show (k : Int) + 1 = ((k + 1 : Nat) : Int) by omega]
        exact ih (k + 1) I3 k _ (by omega) F3 hV3 q3 e20 e32 he
      · rw [he, if_neg c, if_pos (by omega)] at hfin; exact hfin
  exact b266_0 (loop 8 1 I ho _ (by omega) (FV.rf I) hV (fun _ _ => rfl) rfl rfl rfl)
theorem k267 (hd : 8 ≤ d) (hV : RV I D (dHo D 0) lo) (hho : dHo D 0 < 2147483648) (h52 : I 1835 52 = -1)
    (h : ∀ (I' : Nat → Nat → Int) (k : Nat), FV I I' → RV I' D (dHo D 0) k → I' 1835 52 = -1 → I' 1835 0 = I 1835 0 → I' 1835 78 = I 1835 78 → I' 1835 79 = I 1835 79 → I' 1835 80 = I 1835 80 → I' 1972 = I 1972 → I' 3252 = I 3252 → Q (.inl (some (vi (szA D 1)))) (z_cfg t, I', J)) :
    Go sc d mt_267 0 [vr 1835, vn, vn, vn] [] (z_cfg t, I, J) Q := by
  have hD := hV.2.2
  have esz : szA D 1 = if ag D (-1) (dHo D 0) 999 < 0 then ag D (-1) (dHo D 0) 999 else llA D 999 0 999 := by unfold szA; rw [if_neg (by decide)]
  have one : ∀ (I1 : Nat → Nat → Int) (lo1 k : Nat), k ≤ 999 → RV I1 D (dHo D 0) lo1 → FV I I1 → (∀ q, q = 52 ∨ q = 0 ∨ q = 78 ∨ q = 79 ∨ q = 80 → I1 1835 q = I 1835 q) → I1 1972 = I 1972 → I1 3252 = I 3252 → ∀ (d2 : Nat) (K : zR → zW → Prop), 8 ≤ d2 → (∀ I3 : Nat → Nat → Int, FV I I3 → RV I3 D (dHo D 0) k → (∀ q, q = 52 ∨ q = 0 ∨ q = 78 ∨ q = 79 ∨ q = 80 → I3 1835 q = I 1835 q) → I3 1972 = I 1972 → I3 3252 = I 3252 → (-2 ≤ ag D (-1) (dHo D 0) k ∧ ag D (-1) (dHo D 0) k ≤ 2000) → K (.inl (some (vi (ag D (-1) (dHo D 0) k)))) (z_cfg t, I3, J)) → ∀ r : Nat, SR (dStart D) r → Cl sc d2 264 [vr 1835, vi (r : Int)] (z_cfg t, z_u I1 2004 0 (k : Int), J) K := by
    intro I1 lo1 k hk hV1 f1 hq h19 h32 d2 K hd2 hK r hr
    have hV2 : RV (z_u I1 2004 0 (k : Int)) D (dHo D 0) k := hV1.slo
    refine c264 (by omega) (fun d' _ => k264 (w := -1) rfl (by omega) hV2 hr (Or.inl rfl) (by rw [zu_ne (by decide : ¬ 1835 = 2004), hq 52 (by omega)]; exact h52) hho (by omega) (fun I3 f3 hV3 hB3 _ => ?_))
    have hin := ansG_in (D := D) hB3.2.1
    have ea : ansG D (gAll D (acts D (-1)) (dHo D 0) k) = ag D (-1) (dHo D 0) k := rfl
    rw [ea] at hin ⊢
    refine hK I3 (f1.tr ((FV.w (by omega)).tr (FV.fy f3))) hV3 (fun q h' => by rw [f3.k q (by omega) (by omega) (by omega) (by omega), zu_ne (by decide : ¬ 1835 = 2004)]; exact hq q h') ?_ ?_ hin
    · rw [f3.r 1972 (by decide) (by decide) (by decide) (by decide) (by decide) (by decide) (by decide) (by decide) (by decide) (by decide) (by decide) (by decide) (by decide) (by decide), zu_ne (by decide : ¬ 1972 = 2004)]; exact h19
    · rw [f3.r 3252 (by decide) (by decide) (by decide) (by decide) (by decide) (by decide) (by decide) (by decide) (by decide) (by decide) (by decide) (by decide) (by decide) (by decide), zu_ne (by decide : ¬ 3252 = 2004)]; exact h32
  have loop : ∀ (f lw hg : Nat) (I1 : Nat → Nat → Int) (lo1 : Nat) (x1 : Int), lw ≤ hg → hg ≤ 999 → hg - lw ≤ f → FV I I1 → RV I1 D (dHo D 0) lo1 → (∀ q, q = 52 ∨ q = 0 ∨ q = 78 ∨ q = 79 ∨ q = 80 → I1 1835 q = I 1835 q) → I1 1972 = I 1972 → I1 3252 = I 3252 → szA D 1 = llA D f lw hg → Go sc d mt_267 30 [vr 1835, vi x1, vi (lw : Int), vi (hg : Int)] [] (z_cfg t, I1, J) Q := by
    intro f
    induction f with
    | zero =>
      intro lw hg I1 lo1 x1 h1 h2 hf f1 hV1 hq h19 h32 he
      have he : szA D 1 = (hg : Int) := he
      have := h I1 lo1 f1 hV1 (by rw [hq 52 (by omega)]; exact h52) (hq 0 (by omega)) (hq 78 (by omega)) (hq 79 (by omega)) (hq 80 (by omega)) h19 h32
      rw [he] at this
      exact b267_30 ⟨⟨by omega, by omega⟩, ⟨by omega, by omega⟩, fun z => by omega, fun _ => this⟩
    | succ f ih =>
      intro lw hg I1 lo1 x1 h1 h2 hf f1 hV1 hq h19 h32 he
      have he : szA D 1 = if lw < hg then (if ag D (-1) (dHo D 0) ((lw + hg) / 2) = -2 then -2 else if 0 ≤ ag D (-1) (dHo D 0) ((lw + hg) / 2) then llA D f lw ((lw + hg) / 2) else llA D f ((lw + hg) / 2 + 1) hg) else (hg : Int) := he
      by_cases c : lw < hg
      · rw [if_pos c] at he
        have emid : Int.tdiv ((lw : Int) + (hg : Int)) 2 = (((lw + hg) / 2 : Nat) : Int) := by
          rw [show (lw : Int) + (hg : Int) = ((lw + hg : Nat) : Int) by omega]
          rfl
        refine b267_30 ?_
        rw [emid]
        refine ⟨⟨by omega, by omega⟩, ⟨by omega, by omega⟩, fun _ => ⟨⟨⟨by omega, by omega⟩, ⟨by decide, by decide⟩, by decide⟩, ?_⟩, fun z => by omega⟩
        refine c184 (by omega) (fun d' _ => k184 (hV1.slo (k := (lw + hg) / 2)).1 hD (fun r hr => b267_51 ?_))
        refine one I1 lo1 ((lw + hg) / 2) (by omega) hV1 f1 hq h19 h32 d _ hd (fun I3 F3 hV3 q3 e19 e32 hin => ?_) r hr
        have hfin := h I3 _ F3 hV3 (by rw [q3 52 (by omega)]; exact h52) (q3 0 (by omega)) (q3 78 (by omega)) (q3 79 (by omega)) (q3 80 (by omega)) e19 e32
        refine b267_54 ?_
        rw [emid]
        refine ⟨⟨by omega, by omega⟩, fun c2 => ?_, fun c2 => ⟨fun c3 => ⟨⟨⟨by omega, by omega⟩, ⟨by decide, by decide⟩, by decide⟩, ?_⟩, fun c3 => ⟨⟨⟨by omega, by omega⟩, ⟨by decide, by decide⟩, by decide⟩, ?_⟩⟩⟩
        · rw [he, if_pos c2] at hfin; exact hfin
        · rw [if_neg c2, if_neg (by omega)] at he
          rw [show (((lw + hg) / 2 : Nat) : Int) + 1 = (((lw + hg) / 2 + 1 : Nat) : Int) by omega]
          exact ih ((lw + hg) / 2 + 1) hg I3 _ _ (by omega) h2 (by omega) F3 hV3 q3 e19 e32 he
        · rw [if_neg c2, if_pos (by omega)] at he
          exact ih lw ((lw + hg) / 2) I3 _ _ (by omega) (by omega) (by omega) F3 hV3 q3 e19 e32 he
      · rw [if_neg c] at he
        have := h I1 lo1 f1 hV1 (by rw [hq 52 (by omega)]; exact h52) (hq 0 (by omega)) (hq 78 (by omega)) (hq 79 (by omega)) (hq 80 (by omega)) h19 h32
        rw [he] at this
        exact b267_30 ⟨⟨by omega, by omega⟩, ⟨by omega, by omega⟩, fun z => by omega, fun _ => this⟩
  refine b267_0 ?_
  refine c184 (by omega) (fun d' _ => k184 (hV.slo (k := 999)).1 hD (fun r hr => b267_14 ?_))
  refine one I lo 999 (by omega) hV (FV.rf I) (fun _ _ => rfl) rfl rfl d _ hd (fun I3 F3 hV3 q3 e19 e32 hin => ?_) r hr
  have hfin := h I3 _ F3 hV3 (by rw [q3 52 (by omega)]; exact h52) (q3 0 (by omega)) (q3 78 (by omega)) (q3 79 (by omega)) (q3 80 (by omega)) e19 e32
  refine b267_17 ⟨⟨by omega, by omega⟩, fun c => ?_, fun c => ?_⟩
  · rw [esz, if_pos c] at hfin; exact hfin
  · rw [if_neg c] at esz
    exact loop 999 0 999 I3 _ _ (by omega) (by omega) (by omega) F3 hV3 q3 e19 e32 esz
theorem RV.put {ho1 lo1 : Nat} (h : RV I D ho1 lo1) : RV (z_u I 1972 0 ((ho : Nat) : Int)) D ho lo1 ∧ RV (z_u I 2004 0 ((lo : Nat) : Int)) D ho1 lo := ⟨h.sho, h.slo⟩
/-- what size has found out -/
def SK (I : Nat → Nat → Int) (D : tD) : Prop := (I 3252 0 = 0 ∨ I 3252 0 = szA D 0 + 3) ∧ (I 3252 1 = 0 ∨ I 3252 1 = szA D 1 + 3)
theorem k265 {x1 : Int} (hx : inR x1) (hd : 9 ≤ d) (hV : RV I D (dHo D 0) (dLo D 0)) (hho : dHo D 0 < 2147483648) (hlo : dLo D 0 < 2147483648) (hS : SK I D) (hsz : (-3 < szA D 0 ∧ szA D 0 < 2147483640) ∧ (-3 < szA D 1 ∧ szA D 1 < 2147483640)) (h52 : I 1835 52 = -1) (h67 : I 1835 67 = 0 ∨ (I 1835 67 = 1 ∧ RK I D (dHo D 0) (dLo D 0)))
    (hno : ¬ ((x1 = 0 ∨ x1 = 1) ∧ 0 < dB D) → Q (.inl (some (vi 0))) (z_cfg t, z_u (z_u I 1835 0 0) 1835 0 1, J))
    (h : ((x1 = 0 ∨ x1 = 1) ∧ 0 < dB D) → ∀ (I1 : Nat → Nat → Int), FV I I1 → RV I1 D (dHo D 0) (dLo D 0) → SK I1 D → (∀ k, k = 78 ∨ k = 79 ∨ k = 80 → I1 1835 k = I 1835 k) → I1 1835 52 = -1 → (I1 1835 67 = 0 ∨ (I1 1835 67 = 1 ∧ RK I1 D (dHo D 0) (dLo D 0))) → I1 1835 0 = 0 → Q (.inl (some (vi (szA D x1)))) (z_cfg t, I1, J)) :
    Go sc d mt_265 0 [vr 1835, vi x1, vn] [] (z_cfg t, I, J) Q := by
  have hD := hV.2.2
  have hB2 := hD.2.2.1
  have e3 : z_u I 1835 0 0 1835 3 = dB D := by rw [zu_nk (by decide : ¬ 3 = 0)]; exact hV.1.2.2.1
  have bad : ¬ ((x1 = 0 ∨ x1 = 1) ∧ 0 < dB D) → Go sc d mt_265 26 [vr 1835, vi x1, vn] [vr 1835] (z_cfg t, z_u I 1835 0 0, J) Q := fun hb => b265_26 (b265_27 (c189 (by omega) (fun d' _ => k189n rfl (zu_same _ _ _ _) (b265_31 ⟨⟨by decide, by decide⟩, fun _ => hno hb, fun z => absurd rfl z⟩))))
  have end114 : ∀ (I1 : Nat → Nat → Int) (x : Nat) (v2 : zV), x1 = x → x < 2 → 0 < dB D → FV I I1 → RV I1 D (dHo D 0) (dLo D 0) → SK I1 D → ¬ I1 3252 x = 0 → (∀ k, k = 78 ∨ k = 79 ∨ k = 80 → I1 1835 k = I 1835 k) → I1 1835 52 = -1 → (I1 1835 67 = 0 ∨ (I1 1835 67 = 1 ∧ RK I1 D (dHo D 0) (dLo D 0))) → I1 1835 0 = 0 → Go sc d mt_265 114 [vr 1835, vi x1, v2] [] (z_cfg t, I1, J) Q := by
    intro I1 x v2 ex hx2 hb f1 hV1 hS1 hnz hk h521 h671 h01
    have hq := h ⟨by omega, hb⟩ I1 f1 hV1 hS1 hk h521 h671 h01
    subst ex
    refine b265_114 ⟨⟨by omega, by omega⟩, ?_⟩
    rw [Int.toNat_natCast]
    have ev : I1 3252 x = szA D (x : Int) + 3 := by
      by_cases q : x = 0
      · subst q; exact hS1.1.resolve_left hnz
      · have : x = 1 := by omega
        subst this; exact hS1.2.resolve_left hnz
    rw [ev, show szA D (x : Int) + 3 - 3 = szA D (x : Int) by omega]
    exact hq
  have good : ∀ x : Nat, x1 = x → x < 2 → Go sc d mt_265 15 [vr 1835, vi x1, vn] [vr 1835] (z_cfg t, z_u I 1835 0 0, J) Q := by
    intro x ex hx2
    refine b265_15 ?_
    rw [e3]
    refine ⟨⟨by omega, by omega⟩, fun c => ?_, fun c => bad (by omega)⟩
    have hb : 0 < dB D := by omega
    refine b265_27 (c189 (by omega) (fun d' _ => k189y rfl (zu_same _ _ _ _) (b265_31 ?_)))
    subst ex
    have e325 : z_u I 1835 0 0 3252 = I 3252 := zu_ne (by decide)
    have r325 : inR (I 3252 x) := by
      by_cases q : x = 0
      · subst q; rcases hS.1 with z | z <;> rw [z] <;> exact ⟨by omega, by omega⟩
      · have : x = 1 := by omega
        subst this; rcases hS.2 with z | z <;> rw [z] <;> exact ⟨by omega, by omega⟩
    have e19 : z_u I 1835 0 0 1972 0 = ((dHo D 0 : Nat) : Int) := by rw [zu_ne (by decide : ¬ 1972 = 1835)]; exact (hV.1.2.2.2.2.2.2.1 0 hb).1
    have e20 : z_u I 1835 0 0 2004 0 = ((dLo D 0 : Nat) : Int) := by rw [zu_ne (by decide : ¬ 2004 = 1835)]; exact (hV.1.2.2.2.2.2.2.1 0 hb).2.1
    rw [Int.toNat_natCast, e325, e19, e20]
    refine ⟨⟨by decide, by decide⟩, fun z => absurd z (by decide), fun _ => ⟨⟨by omega, by omega⟩, r325, fun c2 => ⟨⟨by omega, by omega⟩, fun c3 => ?_, fun c3 => ?_⟩, fun c2 => ?_⟩⟩
    · have : x = 0 := by omega
      subst this
      refine b265_64 ⟨⟨by omega, by omega⟩, fun _ => ?_, fun z => absurd c3 z⟩
      refine c266 (by omega) (fun d' _ => k266 (by omega) hV.f0 hlo (by rw [zu_nk (by decide : ¬ 52 = 0)]; exact h52) (fun I2 k f2 hV2 a52 a0 a78 a79 a80 a20 a32 => b265_79 (b265_86 ?_)))
      have esz : szA D 0 = lhA D 8 1 := by unfold szA; rw [if_pos rfl]
      have hV3 : RV (z_u (z_u I2 3252 0 (3 + lhA D 8 1)) 1972 0 ((dHo D 0 : Nat) : Int)) D (dHo D 0) (dLo D 0) := (hV2.w (a := 3252) (k := 0) (v := 3 + lhA D 8 1) rfl).sho
      refine ⟨⟨by omega, by omega⟩, ⟨by omega, by omega⟩, fun _ => b265_109 ?_, fun z => absurd c3 z⟩
      show Go sc d mt_265 114 [vr 1835, vi ((0 : Nat) : Int), vi ((dHo D 0 : Nat) : Int)] [] (z_cfg t, z_u (z_u (z_u I2 3252 0 (3 + lhA D 8 1)) 1972 0 ((dHo D 0 : Nat) : Int)) 1835 67 0, J) Q
      have e1835 : ∀ q, ¬ q = 67 → z_u (z_u (z_u I2 3252 0 (3 + lhA D 8 1)) 1972 0 ((dHo D 0 : Nat) : Int)) 1835 67 0 1835 q = I2 1835 q := fun q hq => by rw [zu_nk hq, zu_ne (by decide : ¬ 1835 = 1972), zu_ne (by decide : ¬ 1835 = 3252)]
      have e3252 : z_u (z_u (z_u I2 3252 0 (3 + lhA D 8 1)) 1972 0 ((dHo D 0 : Nat) : Int)) 1835 67 0 3252 = z_row (I2 3252) 0 (3 + lhA D 8 1) := by rw [zu_ne (by decide : ¬ 3252 = 1835), zu_ne (by decide : ¬ 3252 = 1972), zu_row]
      refine end114 _ 0 _ rfl (by omega) hb ((FV.f (k := 0) (by omega)).tr (f2.tr ((FV.w (by omega)).tr ((FV.w (by omega)).tr (FV.f (by omega)))))) (hV3.fld (by omega)) ⟨?_, ?_⟩ ?_ (fun q hq => ?_) (by rw [e1835 52 (by decide)]; exact a52) (Or.inl (zu_same _ _ _ _)) (by rw [e1835 0 (by decide), a0, zu_same])
      · rw [e3252, zrow_at, esz]; exact Or.inr (by omega)
      · rw [e3252, zrow_ne (by decide : ¬ 1 = 0), a32, e325]; exact hS.2
      · rw [e3252, zrow_at]; omega
      · rw [e1835 q (by omega)]
        rcases hq with z | z | z
        · rw [z, a78, zu_nk (by decide : ¬ 78 = 0)]
        · rw [z, a79, zu_nk (by decide : ¬ 79 = 0)]
        · rw [z, a80, zu_nk (by decide : ¬ 80 = 0)]
    · have : x = 1 := by omega
      subst this
      refine b265_64 ⟨⟨by omega, by omega⟩, fun z => absurd z c3, fun _ => ?_⟩
      refine c267 (by omega) (fun d' _ => k267 (by omega) hV.f0 hho (by rw [zu_nk (by decide : ¬ 52 = 0)]; exact h52) (fun I2 k f2 hV2 a52 a0 a78 a79 a80 a19 a32 => b265_86 ?_))
      have hV3 : RV (z_u (z_u I2 3252 1 (3 + szA D 1)) 2004 0 ((dLo D 0 : Nat) : Int)) D (dHo D 0) (dLo D 0) := (hV2.w (a := 3252) (k := 1) (v := 3 + szA D 1) rfl).slo
      refine ⟨⟨by omega, by omega⟩, ⟨by omega, by omega⟩, fun z => absurd z c3, fun _ => b265_109 ?_⟩
      show Go sc d mt_265 114 [vr 1835, vi ((1 : Nat) : Int), vi ((dLo D 0 : Nat) : Int)] [] (z_cfg t, z_u (z_u (z_u I2 3252 1 (3 + szA D 1)) 2004 0 ((dLo D 0 : Nat) : Int)) 1835 67 0, J) Q
      have e1835 : ∀ q, ¬ q = 67 → z_u (z_u (z_u I2 3252 1 (3 + szA D 1)) 2004 0 ((dLo D 0 : Nat) : Int)) 1835 67 0 1835 q = I2 1835 q := fun q hq => by rw [zu_nk hq, zu_ne (by decide : ¬ 1835 = 2004), zu_ne (by decide : ¬ 1835 = 3252)]
      have e3252 : z_u (z_u (z_u I2 3252 1 (3 + szA D 1)) 2004 0 ((dLo D 0 : Nat) : Int)) 1835 67 0 3252 = z_row (I2 3252) 1 (3 + szA D 1) := by rw [zu_ne (by decide : ¬ 3252 = 1835), zu_ne (by decide : ¬ 3252 = 2004), zu_row]
      refine end114 _ 1 _ rfl (by omega) hb ((FV.f (k := 0) (by omega)).tr (f2.tr ((FV.w (by omega)).tr ((FV.w (by omega)).tr (FV.f (by omega)))))) (hV3.fld (by omega)) ⟨?_, ?_⟩ ?_ (fun q hq => ?_) (by rw [e1835 52 (by decide)]; exact a52) (Or.inl (zu_same _ _ _ _)) (by rw [e1835 0 (by decide), a0, zu_same])
      · rw [e3252, zrow_ne (by decide : ¬ 0 = 1), a32, e325]; exact hS.1
      · rw [e3252, zrow_at]; exact Or.inr (by omega)
      · rw [e3252, zrow_at]; omega
      · rw [e1835 q (by omega)]
        rcases hq with z | z | z
        · rw [z, a78, zu_nk (by decide : ¬ 78 = 0)]
        · rw [z, a79, zu_nk (by decide : ¬ 79 = 0)]
        · rw [z, a80, zu_nk (by decide : ¬ 80 = 0)]
    · refine end114 _ x _ rfl hx2 hb (FV.f (by omega)) hV.f0 ?_ (by rw [e325]; exact c2) (fun q hq => zu_nk (by omega)) (by rw [zu_nk (by decide : ¬ 52 = 0)]; exact h52) (h67_f0 h67) (zu_same _ _ _ _)
      unfold SK
      rw [e325]
      exact hS
  exact b265_0 ⟨hx, fun c => good 0 c (by decide), fun c => ⟨fun c2 => good 1 c2 (by decide), fun c2 => bad (by omega)⟩⟩
end
