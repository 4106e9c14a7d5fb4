/-! ===== which laws are free, which alone bar; how big a boat must be: pure; the class ===== -/
noncomputable def ag (D : tD) (w : Int) (ho lo : Nat) : Int := ansG D (gAll D (acts D w) ho lo)
noncomputable def aw (D : tD) (w : Int) : Int := ag D w (dHo D 0) (dLo D 0)
noncomputable def lwS (D : tD) (n : Nat) : Nat × Nat × Bool := match n with
  | 0 => (0, 0, decide (¬ aw D (-1) = -2))
  | n + 1 => if (lwS D n).2.2 = false then lwS D n else (if aw D (n : Int) = aw D (-1) then (lwS D n).1 ||| 2 ^ n else (lwS D n).1, if aw D (-1) = -1 ∧ 0 ≤ aw D (n : Int) then (lwS D n).2.1 ||| 2 ^ n else (lwS D n).2.1, decide (¬ aw D (n : Int) = -2))
noncomputable def lawA (D : tD) (x : Int) : Int := if (lwS D (dL D)).2.2 = false then -1 else if x = 0 then ((lwS D (dL D)).1 : Int) else ((lwS D (dL D)).2.1 : Int)
theorem lwS_lt (D : tD) : ∀ n, n ≤ 12 → (lwS D n).1 < 2 ^ 12 ∧ (lwS D n).2.1 < 2 ^ 12 := by
  intro n
  induction n with
  | zero => intro _; exact (⟨by decide, by decide⟩ : (0 : Nat) < 2 ^ 12 ∧ (0 : Nat) < 2 ^ 12)
  | succ n ih =>
    intro hn
    have h := ih (by omega)
    have hp : 2 ^ n < 2 ^ 12 := Nat.pow_lt_pow_right (by decide) (by omega)
    have ho : ∀ x, x < 2 ^ 12 → x ||| 2 ^ n < 2 ^ 12 := fun x hx => Nat.or_lt_two_pow hx hp
    show (if (lwS D n).2.2 = false then lwS D n else _).1 < 2 ^ 12 ∧ (if (lwS D n).2.2 = false then lwS D n else _).2.1 < 2 ^ 12
    split
    · exact h
    · refine ⟨?_, ?_⟩
      · show (if aw D (n : Int) = aw D (-1) then (lwS D n).1 ||| 2 ^ n else (lwS D n).1) < 2 ^ 12
        split
        · exact ho _ h.1
        · exact h.1
      · show (if aw D (-1) = -1 ∧ 0 ≤ aw D (n : Int) then (lwS D n).2.1 ||| 2 ^ n else (lwS D n).2.1) < 2 ^ 12
        split
        · exact ho _ h.2
        · exact h.2
theorem lwS_bad {D : tD} {n : Nat} (h : (lwS D n).2.2 = false) : ∀ m, (lwS D (n + m)).2.2 = false := by
  intro m
  induction m with
  | zero => exact h
  | succ m ih =>
    show (if (lwS D (n + m)).2.2 = false then lwS D (n + m) else _).2.2 = false
    rw [if_pos ih]
    exact ih
theorem lwS_s {D : tD} {n : Nat} (h : (lwS D n).2.2 = true) : lwS D (n + 1) = (if aw D (n : Int) = aw D (-1) then (lwS D n).1 ||| 2 ^ n else (lwS D n).1, if aw D (-1) = -1 ∧ 0 ≤ aw D (n : Int) then (lwS D n).2.1 ||| 2 ^ n else (lwS D n).2.1, decide (¬ aw D (n : Int) = -2)) := by
  show (if (lwS D n).2.2 = false then lwS D n else _) = _
  rw [h, if_neg (by decide)]
noncomputable def lhA (D : tD) (m k : Nat) : Int := match m with
  | 0 => -1
  | m + 1 => if ag D (-1) k (dLo D 0) = -2 then -2 else if 0 ≤ ag D (-1) k (dLo D 0) then (k : Int) else lhA D m (k + 1)
noncomputable def llA (D : tD) (f lw hg : Nat) : Int := match f with
  | 0 => (hg : Int)
  | f + 1 => if lw < hg then (if ag D (-1) (dHo D 0) ((lw + hg) / 2) = -2 then -2 else if 0 ≤ ag D (-1) (dHo D 0) ((lw + hg) / 2) then llA D f lw ((lw + hg) / 2) else llA D f ((lw + hg) / 2 + 1) hg) else (hg : Int)
noncomputable def szA (D : tD) (x : Int) : Int := if x = 0 then lhA D 8 1 else if ag D (-1) (dHo D 0) 999 < 0 then ag D (-1) (dHo D 0) 999 else llA D 999 0 999
theorem ansG_in {D : tD} {act : Nat} {g : gS} (hO : gOk D act g) : -2 ≤ ansG D g ∧ ansG D g ≤ 2000 := by
  have := gg_in (D := D) (X := gX g) (Dp := gDp g) (n := gN g) (B := 2000) (fun i hi => by have := (hO.2.2.1 i hi).2; have := hO.1.1; omega)
  unfold ansG
  split <;> omega
section
variable {sc : mS} {d : Nat} {t : zT} {I J : Nat → Nat → Int} {Q : zR → zW → Prop} {D : tD}
theorem k25x {x1 x2 x3 : Int} {act ho lo n : Nat} (e1 : x1 = act) (e2 : x2 = ho) (e3 : x3 = lo) (hd : 6 ≤ d) (hX : TX t I D) (hP : GP t I D n) (hact : act < 4096) (hho : ho < 2147483648) (hlo : lo < 2147483648)
    (h : ∀ (t' : zT) (I' J' : Nat → Nat → Int), tU t t' → FU I I' J J' → TX t' I' D → GP t' I' D (n + 1) → I' 1057 0 = 0 → gOk D act (gAll D act ho lo) → Q (.inl (some (vi (ansG D (gAll D act ho lo))))) (z_cfg t', I', J')) :
    Go sc d mt_25 0 [vr 1057, vi x1, vi x2, vi x3, vn, vn, vn, vn] [] (z_cfg t, I, J) Q := by
  have hs := hX.2.2.2 (t_rb t) 1 (by decide)
  obtain ⟨p1, p2, p3, p4, -⟩ := hP
  refine k25 e1 e2 e3 hd hX.2.2.1 hX.1 hact hho hlo hs.1 hs.2 (fun t' I' J' ht hf g0 g1 gk hU hGB => ?_)
  have i3 : I' 1283 = I 1283 := hf.1 1283 (by decide) (by decide) (by decide) (by decide) (by decide) (by decide) (by decide) (by decide) (by decide) (by decide)
  exact h t' I' J' (tU_of ht) hf (hX.fu ht hf hU) ⟨by rw [g1]; omega, by rw [i3, g1]; omega, by rw [i3]; exact p3, by rw [i3]; exact p4, Or.inl g0⟩ g0 hGB.2.2.2.2.1
/-- what asking what if leaves alone -/
def FL (I I' J J' : Nat → Nat → Int) : Prop := (∀ a, a < 3392 → ¬ a = 884 → ¬ a = 1044 → ¬ a = 1057 → ¬ a = 1108 → ¬ a = 1140 → ¬ a = 1172 → ¬ a = 1204 → ¬ a = 1236 → ¬ a = 1270 → ¬ a = 1481 → I' a = I a) ∧ ∀ a, a < 3392 → J' a = J a
theorem FL.rf (I J : Nat → Nat → Int) : FL I I J J := ⟨fun _ _ _ _ _ _ _ _ _ _ _ _ => rfl, fun _ _ => rfl⟩
theorem FL.tr {I I1 I2 J J1 J2 : Nat → Nat → Int} (h : FL I I1 J J1) (h' : FL I1 I2 J1 J2) : FL I I2 J J2 := ⟨fun a h1 h2 h3 h4 h5 h6 h7 h8 h9 h10 h11 => (h'.1 a h1 h2 h3 h4 h5 h6 h7 h8 h9 h10 h11).trans (h.1 a h1 h2 h3 h4 h5 h6 h7 h8 h9 h10 h11), fun a ha => (h'.2 a ha).trans (h.2 a ha)⟩
theorem FL.fu {I I' J J' : Nat → Nat → Int} (h : FU I I' J J') : FL I I' J J' := ⟨fun a h1 h2 h3 h4 h5 h6 h7 h8 h9 h10 _ => h.1 a h1 h2 h3 h4 h5 h6 h7 h8 h9 h10, h.2⟩
theorem FL.w {I I' : Nat → Nat → Int} (J : Nat → Nat → Int) (h : ∀ a, ¬ a = 1481 → I' a = I a) : FL I I' J J := ⟨fun a _ _ _ _ _ _ _ _ _ _ h11 => h a h11, fun _ _ => rfl⟩
theorem TX.w {I' : Nat → Nat → Int} (h : TX t I D) (hf : ∀ a, a < 1040 → I' a = I a) : TX t I' D := by
  refine ⟨h.1, h.2.1, h.2.2.1.up rfl hf, fun b i hi => ?_⟩
  rw [hf (z_mf b 6) (by have := zmf_lt b 6; omega), hf (z_mf b 7) (by have := zmf_lt b 7; omega)]
  exact h.2.2.2 b i hi
theorem GP.w {I' : Nat → Nat → Int} {n : Nat} (h : GP t I D n) (hf : ∀ a, a ≤ 1460 ∨ 3392 ≤ a → I' a = I a) : GP t I' D n := by
  obtain ⟨p1, p2, p3, p4, p5⟩ := h
  have e1 : I' 1057 = I 1057 := hf 1057 (by decide)
  have e2 : I' 1283 = I 1283 := hf 1283 (by decide)
  unfold GP
  rw [e1, e2]
  refine ⟨p1, p2, p3, p4, ?_⟩
  rcases p5 with z | ⟨z, hbd, hgb, hG, hmz⟩
  · exact Or.inl z
  · exact Or.inr ⟨z, hbd, hgb, hG.to3 (fun a ha => hf a (by omega)), fun a b s tm c1 c2 => (hmz a b s tm c1 c2).to (by rw [e2]) (hf 1332 (by decide)) (hf 1460 (by decide))⟩
theorem GP.mono {n m : Nat} (h : GP t I D n) (hm : n ≤ m) : GP t I D m := ⟨⟨h.1.1, by have := h.1.2; omega⟩, h.2⟩
theorem k167 {n : Nat} (hd : 7 ≤ d) (hX : TX t I D) (hP : GP t I D n) (hn : n + 12 < 2147483648) (hG : GB t I D (acts D (-1)) (G0 D))
    (h : ∀ (t' : zT) (I' J' : Nat → Nat → Int), tU t t' → FL I I' J J' → TX t' I' D → GP t' I' D (n + 12) → I' 1481 0 = 1 → I' 1481 1 = lawA D 0 → I' 1481 2 = lawA D 1 → (∀ k, ¬ k = 0 → ¬ k = 1 → ¬ k = 2 → I' 1481 k = I 1481 k) → Q (.inl none) (z_cfg t', I', J')) :
    Go sc d mt_167 0 [vr 1481, vr 839, vr 1057, vn, vn, vn, vn, vn] [] (z_cfg t, I, J) Q := by
  have hD := hX.2.2.1.2.2.2
  have hL := hD.2.2.2.1
  have hw1 := ansG_in (D := D) hG.2.2.2.2.1
  have eaw : aw D (-1) = ansG D (G0 D) := rfl
  have loop : ∀ (m l : Nat) (t1 : zT) (I1 J1 : Nat → Nat → Int) (v7 : zV), l + m = dL D → tU t t1 → FL I I1 J J1 → TX t1 I1 D → GP t1 I1 D (n + l) → I1 1481 0 = 1 → ((lwS D l).2.2 = true → I1 1481 1 = ((lwS D l).1 : Int) ∧ I1 1481 2 = ((lwS D l).2.1 : Int)) → (∀ k, ¬ k = 0 → ¬ k = 1 → ¬ k = 2 → I1 1481 k = I 1481 k) → Go sc d mt_167 47 [vr 1481, vr 839, vr 1057, vr (z_md (t_rb t1)), vi (aw D (-1)), vi (if (lwS D l).2.2 = true then 0 else 1), vi (l : Int), v7] [] (z_cfg t1, I1, J1) Q := by
    intro m
    induction m with
    | zero =>
      intro l t1 I1 J1 v7 hl ht f1 hX1 hP1 i0 i12 ik
      have hl : l = dL D := by omega
      subst hl
      have e12 : I1 (z_md (t_rb t1)) 12 = dL D := hX1.2.2.1.1.2.2.2.2.1
      refine b167_47 ?_
      rw [e12]
      refine ⟨⟨by omega, by omega⟩, ⟨by omega, by omega⟩, fun z => by omega, fun _ => b167_152 ?_⟩
      cases hg : (lwS D (dL D)).2.2 with
      | true =>
        have e1 : lawA D 0 = ((lwS D (dL D)).1 : Int) := by unfold lawA; rw [hg, if_neg (by decide), if_pos rfl]
        have e2 : lawA D 1 = ((lwS D (dL D)).2.1 : Int) := by unfold lawA; rw [hg, if_neg (by decide), if_neg (by decide)]
        rw [if_pos rfl]
        exact ⟨⟨by decide, by decide⟩, fun _ => h t1 I1 J1 ht f1 hX1 (hP1.mono (by omega)) i0 (by rw [e1]; exact (i12 hg).1) (by rw [e2]; exact (i12 hg).2) ik, fun z => absurd rfl z⟩
      | false =>
        have e1 : lawA D 0 = -1 := by unfold lawA; rw [hg, if_pos rfl]
        have e2 : lawA D 1 = -1 := by unfold lawA; rw [hg, if_pos rfl]
        rw [if_neg (by decide)]
        have f2 : ∀ a, ¬ a = 1481 → z_u (z_u I1 1481 1 (-1)) 1481 2 (-1) a = I1 a := fun a ha => by rw [zu_ne ha, zu_ne ha]
        exact ⟨⟨by decide, by decide⟩, fun z => absurd z (by decide), fun _ => h t1 _ J1 ht (f1.tr (FL.w J1 f2)) (hX1.w (fun a ha => f2 a (by omega))) ((hP1.w (fun a ha => f2 a (by omega))).mono (by omega)) (by rw [zu_nk (by decide : ¬ 0 = 2), zu_nk (by decide : ¬ 0 = 1)]; exact i0) (by rw [zu_nk (by decide : ¬ 1 = 2), zu_same, e1]) (by rw [zu_same, e2]) (fun k k0 k1 k2 => by rw [zu_nk k2, zu_nk k1]; exact ik k k0 k1 k2)⟩
    | succ m ih =>
      intro l t1 I1 J1 v7 hl ht f1 hX1 hP1 i0 i12 ik
      have e12 : I1 (z_md (t_rb t1)) 12 = dL D := hX1.2.2.1.1.2.2.2.2.1
      have hb := lwS_lt D l (by omega)
      cases hg : (lwS D l).2.2 with
      | false =>
        have hg2 := lwS_bad hg (dL D - l)
        rw [show l + (dL D - l) = dL D by omega] at hg2
        have e1 : lawA D 0 = -1 := by unfold lawA; rw [hg2, if_pos rfl]
        have e2 : lawA D 1 = -1 := by unfold lawA; rw [hg2, if_pos rfl]
        rw [if_neg (by decide)]
        have f2 : ∀ a, ¬ a = 1481 → z_u (z_u I1 1481 1 (-1)) 1481 2 (-1) a = I1 a := fun a ha => by rw [zu_ne ha, zu_ne ha]
        refine b167_47 ?_
        rw [e12]
        refine ⟨⟨by omega, by omega⟩, ⟨by omega, by omega⟩, fun _ => ⟨⟨by decide, by decide⟩, fun z => absurd z (by decide), fun _ => b167_152 ?_⟩, fun z => by omega⟩
        exact ⟨⟨by decide, by decide⟩, fun z => absurd z (by decide), fun _ => h t1 _ J1 ht (f1.tr (FL.w J1 f2)) (hX1.w (fun a ha => f2 a (by omega))) ((hP1.w (fun a ha => f2 a (by omega))).mono (by omega)) (by rw [zu_nk (by decide : ¬ 0 = 2), zu_nk (by decide : ¬ 0 = 1)]; exact i0) (by rw [zu_nk (by decide : ¬ 1 = 2), zu_same, e1]) (by rw [zu_same, e2]) (fun k k0 k1 k2 => by rw [zu_nk k2, zu_nk k1]; exact ik k k0 k1 k2)⟩
      | true =>
        rw [if_pos rfl]
        refine b167_47 ?_
        rw [e12]
        refine ⟨⟨by omega, by omega⟩, ⟨by omega, by omega⟩, fun _ => ⟨⟨by decide, by decide⟩, fun _ => ?_, fun z => absurd rfl z⟩, fun z => by omega⟩
        refine c24 (by omega) (fun d' _ => k24 hX1.2.2.1 (b167_66 ?_))
        obtain ⟨ho, lo, e6, e7, l6, l7, hbb⟩ := hX1.hold
        rw [e6, e7, acts_one hD (by omega : l < dL D)]
        have hgg : gAll D (acts D (l : Int)) ho lo = gAll D (acts D (l : Int)) (dHo D 0) (dLo D 0) := by
          rcases Nat.eq_zero_or_pos (dB D) with q | q
          · exact gAll_nb q
          · rw [(hbb q).1, (hbb q).2]
        refine c25 (by omega) (fun d' _ => k25x rfl rfl rfl (by omega) hX1 hP1 (acts_lt hD _) l6 l7 (fun t2 I2 J2 hu2 f2 hX2 hP2 g0 hO2 => ?_))
        have hin := ansG_in (D := D) hO2
        rw [hgg] at hin
        have ea : ansG D (gAll D (acts D (l : Int)) (dHo D 0) (dLo D 0)) = aw D (l : Int) := rfl
        rw [hgg, ea]
        rw [ea] at hin
        have i81 : I2 1481 = I1 1481 := f2.1 1481 (by decide) (by decide) (by decide) (by decide) (by decide) (by decide) (by decide) (by decide) (by decide) (by decide)
        have hs := lwS_s hg
        have em : z_md (t_rb t1) = z_md (t_rb t2) := by rw [hu2.1.2.1]
        rw [em]
        have go102 : ∀ x5 : Int, x5 = (if (lwS D (l + 1)).2.2 = true then 0 else 1) → Go sc d mt_167 102 [vr 1481, vr 839, vr 1057, vr (z_md (t_rb t2)), vi (aw D (-1)), vi 0, vi (l : Int), vi (aw D (l : Int))] [vi x5] (z_cfg t2, I2, J2) Q := by
          intro x5 hx5
          have hz : zshl 1 (l : Int) = ((2 ^ l : Nat) : Int) := by
            have := zshl_n (x := 1) (k := l) (by omega) (by have := Nat.pow_le_pow_right (n := 2) (by decide) (show l ≤ 12 by omega); omega)
            rw [Nat.one_mul] at this
            exact this
          have hp2 : 2 ^ l ≤ 2 ^ 12 := Nat.pow_le_pow_right (by decide) (by omega)
          have next : ∀ I3 : Nat → Nat → Int, (∀ a, ¬ a = 1481 → I3 a = I2 a) → (∀ k, ¬ k = 1 → ¬ k = 2 → I3 1481 k = I2 1481 k) → ((lwS D (l + 1)).2.2 = true → I3 1481 1 = ((lwS D (l + 1)).1 : Int) ∧ I3 1481 2 = ((lwS D (l + 1)).2.1 : Int)) → Go sc d mt_167 146 [vr 1481, vr 839, vr 1057, vr (z_md (t_rb t2)), vi (aw D (-1)), vi x5, vi (l : Int), vi (aw D (l : Int))] [] (z_cfg t2, I3, J2) Q := by
            intro I3 g3 g4 g5
            refine b167_146 ?_
            rw [show (l : Int) + 1 = ((l + 1 : Nat) : Int) by omega, hx5]
            exact ih (l + 1) t2 I3 J2 _ (by omega) (ht.tr hu2) (f1.tr ((FL.fu f2).tr (FL.w J2 g3))) (hX2.w (fun a ha => g3 a (by omega))) (hP2.w (fun a ha => g3 a (by omega))) (by rw [g4 0 (by decide) (by decide), i81]; exact i0) g5 (fun k k0 k1 k2 => by rw [g4 k k1 k2, i81]; exact ik k k0 k1 k2)
          refine b167_102 ?_
          rw [i81, (i12 hg).1, (i12 hg).2, hz, zor_n (by omega) (by omega), zor_n (by omega) (by omega)]
          refine ⟨⟨by omega, by omega⟩, ⟨by omega, by omega⟩, fun c => ?_, fun c => ⟨fun c2 => ?_, fun c2 => ?_⟩⟩
          · refine next _ (fun a ha => zu_ne ha) (fun k k1 _ => zu_nk k1) (fun hgt => ?_)
            rw [hs, if_pos c]
            refine ⟨zu_same _ _ _ _, ?_⟩
            rw [zu_nk (by decide : ¬ 2 = 1), i81, (i12 hg).2, if_neg (by omega)]
          · refine next _ (fun a ha => zu_ne ha) (fun k _ k2 => zu_nk k2) (fun hgt => ?_)
            rw [hs] at hgt
            have hgt : ¬ aw D (l : Int) = -2 := of_decide_eq_true hgt
            rw [hs, if_neg c, if_pos ⟨c2, by omega⟩]
            refine ⟨?_, zu_same _ _ _ _⟩
            rw [zu_nk (by decide : ¬ 1 = 2), i81, (i12 hg).1]
          · refine next I2 (fun _ _ => rfl) (fun _ _ _ => rfl) (fun hgt => ?_)
            rw [hs, if_neg c, if_neg (fun z => c2 z.1), i81]
            exact i12 hg
        refine b167_88 ⟨⟨by omega, by omega⟩, fun c => go102 1 ?_, fun c => go102 0 ?_⟩
        · rw [hs]
          show 1 = if decide (¬ aw D (l : Int) = -2) = true then (0 : Int) else 1
          rw [if_neg (fun z => (of_decide_eq_true z) c)]
        · rw [hs]
          show 0 = if decide (¬ aw D (l : Int) = -2) = true then (0 : Int) else 1
          rw [if_pos (decide_eq_true c)]
  have start : ∀ x4 : Int, x4 = aw D (-1) → I 1057 2 = (if (lwS D 0).2.2 = true then 0 else 1) → Go sc d mt_167 21 [vr 1481, vr 839, vr 1057, vr (z_md (t_rb t)), vn, vn, vn, vn] [vi x4] (z_cfg t, I, J) Q := by
    intro x4 hx4 h2
    refine b167_21 ?_
    rw [h2, hx4]
    have f2 : ∀ a, ¬ a = 1481 → z_u (z_u (z_u I 1481 0 1) 1481 1 0) 1481 2 0 a = I a := fun a ha => by rw [zu_ne ha, zu_ne ha, zu_ne ha]
    exact loop (dL D) 0 t _ J _ (by omega) (tU.rf t) (FL.w J f2) (hX.w (fun a ha => f2 a (by omega))) (hP.w (fun a ha => f2 a (by omega))) rfl (fun _ => ⟨rfl, rfl⟩) (fun k k0 k1 k2 => by rw [zu_nk k2, zu_nk k1, zu_nk k0])
  refine b167_0 ?_
  rcases hG.2.2.2.1 with ⟨a1, a2, -⟩ | ⟨a1, a2, -, a4, -⟩
  · have ea : aw D (-1) = -2 := by rw [eaw]; unfold ansG; rw [if_pos a1]
    rw [a2]
    refine ⟨⟨by decide, by decide⟩, fun z => absurd z (by decide), fun _ => start _ ea.symm ?_⟩
    rw [a2]
    show 1 = if decide (¬ aw D (-1) = -2) = true then (0 : Int) else 1
    rw [if_neg (fun z => (of_decide_eq_true z) ea)]
  · have ea : aw D (-1) = gg D (gX (G0 D)) (gDp (G0 D)) (gN (G0 D)) := by rw [eaw]; unfold ansG; rw [if_neg (by rw [a1]; decide)]
    have hgi := gg_in (D := D) (X := gX (G0 D)) (Dp := gDp (G0 D)) (n := gN (G0 D)) (B := 2000) (fun i hi => by have := (hG.2.2.2.2.1.2.2.1 i hi).2; have := hG.2.2.2.2.1.1.1; omega)
    rw [a2]
    refine ⟨⟨by decide, by decide⟩, fun _ => start _ (by rw [a4.2.2.2, ea]) ?_, fun z => absurd rfl z⟩
    rw [a2]
    show 0 = if decide (¬ aw D (-1) = -2) = true then (0 : Int) else 1
    rw [if_pos (decide_eq_true (by rw [ea]; omega))]
end
