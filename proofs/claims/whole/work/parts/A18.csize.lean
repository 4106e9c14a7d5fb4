/-! ===== the class: leastHeld, leastLoad ===== -/
section
variable {sc : mS} {d : Nat} {t : zT} {I J : Nat → Nat → Int} {Q : zR → zW → Prop} {D : tD}
theorem lhA_in (D : tD) : ∀ m k, k + m ≤ 9 → -2 ≤ lhA D m k ∧ lhA D m k ≤ 8 := by
  intro m
  induction m with
  | zero => intro k _; exact (⟨by decide, by decide⟩ : (-2 : Int) ≤ -1 ∧ (-1 : Int) ≤ 8)
  | succ m ih =>
    intro k hk
    show -2 ≤ (if ag D (-1) k (dLo D 0) = -2 then -2 else if 0 ≤ ag D (-1) k (dLo D 0) then (k : Int) else lhA D m (k + 1)) ∧ (if ag D (-1) k (dLo D 0) = -2 then -2 else if 0 ≤ ag D (-1) k (dLo D 0) then (k : Int) else lhA D m (k + 1)) ≤ 8
    have := ih (k + 1) (by omega)
    split
    · omega
    · split <;> omega
theorem k170 {n : Nat} (hd : 7 ≤ d) (hX : TX t I D) (hP : GP t I D n) (hn : n + 8 < 2147483648) (hB : 0 < dB D) (h3 : I 1481 3 = -3 ∨ I 1481 3 = szA D 0)
    (h : ∀ (t' : zT) (I' J' : Nat → Nat → Int), tU t t' → FL I I' J J' → TX t' I' D → GP t' I' D (n + 8) → I' 1481 3 = szA D 0 → (∀ k, ¬ k = 3 → I' 1481 k = I 1481 k) → Q (.inl (some (vi (szA D 0)))) (z_cfg t', I', J')) :
    Go sc d mt_170 0 [vr 1481, vr 839, vr 1057, vn, vn] [] (z_cfg t, I, J) Q := by
  have hD := hX.2.2.1.2.2.2
  have esz : szA D 0 = lhA D 8 1 := by unfold szA; rw [if_pos rfl]
  have hin := lhA_in D 8 1 (by decide)
  rcases h3 with z | z
  · have loop : ∀ (m k : Nat) (t1 : zT) (I1 J1 : Nat → Nat → Int) (v4 : zV), k + m = 9 → 1 ≤ k → tU t t1 → FL I I1 J J1 → TX t1 I1 D → GP t1 I1 D (n + (k - 1)) → I1 1481 3 = -1 → (∀ k, ¬ k = 3 → I1 1481 k = I 1481 k) → lhA D 8 1 = lhA D m k → Go sc d mt_170 16 [vr 1481, vr 839, vr 1057, vi (k : Int), v4] [] (z_cfg t1, I1, J1) Q := by
      intro m
      induction m with
      | zero =>
        intro k t1 I1 J1 v4 hk _ ht f1 hX1 hP1 i3 ik he
        have he : lhA D 8 1 = -1 := he
        have := h t1 I1 J1 ht f1 hX1 (hP1.mono (by omega)) (by rw [esz, he]; exact i3) ik
        rw [esz, he] at this
        refine b170_16 ?_
        rw [i3]
        exact ⟨⟨by omega, by omega⟩, fun _ => this, fun z => by omega⟩
      | succ m ih =>
        intro k t1 I1 J1 v4 hk hk1 ht f1 hX1 hP1 i3 ik he
        have he : lhA D 8 1 = if ag D (-1) k (dLo D 0) = -2 then -2 else if 0 ≤ ag D (-1) k (dLo D 0) then (k : Int) else lhA D m (k + 1) := he
        refine b170_16 ?_
        rw [i3]
        refine ⟨⟨by omega, by omega⟩, fun z => by omega, fun _ => ⟨⟨by decide, by decide⟩, fun _ => ?_, fun z => absurd rfl z⟩⟩
        refine c24 (by omega) (fun d' _ => k24 hX1.2.2.1 (b170_35 ?_))
        obtain ⟨ho, lo, e6, e7, l6, l7, hbb⟩ := hX1.hold
        rw [e7, (hbb hB).2]
        refine c25 (by omega) (fun d' _ => k25x (act := acts D (-1)) (by rw [acts_all]) rfl rfl (by omega) hX1 hP1 (acts_lt hD _) (by omega) (by rw [← (hbb hB).2]; exact l7) (fun t2 I2 J2 hu2 f2 hX2 hP2 g0 hO2 => ?_))
        have hin2 := ansG_in (D := D) hO2
        have ea : ansG D (gAll D (acts D (-1)) k (dLo D 0)) = ag D (-1) k (dLo D 0) := rfl
        rw [ea] at hin2 ⊢
        have i81 : I2 1481 = I1 1481 := f2.1 1481 (by decide) (by decide) (by decide) (by decide) (by decide) (by decide) (by decide) (by decide) (by decide) (by decide)
        have go62 : ∀ v : Int, (v = -1 → lhA D 8 1 = lhA D m (k + 1)) → (¬ v = -1 → lhA D 8 1 = v) → inR v → Go sc d mt_170 62 [vr 1481, vr 839, vr 1057, vi (k : Int), vi (ag D (-1) k (dLo D 0))] [vi v, vr 1481] (z_cfg t2, I2, J2) Q := by
          intro v hv1 hv2 hvr
          refine b170_62 ?_
          rw [show (k : Int) + 1 = ((k + 1 : Nat) : Int) by omega]
          have f3 : ∀ a, ¬ a = 1481 → z_u I2 1481 3 v a = I2 a := fun a ha => zu_ne ha
          have hX3 := hX2.w (I' := z_u I2 1481 3 v) (fun a ha => f3 a (by omega))
          have hP3 := hP2.w (I' := z_u I2 1481 3 v) (fun a ha => f3 a (by omega))
          have F3 : FL I (z_u I2 1481 3 v) J J2 := f1.tr ((FL.fu f2).tr (FL.w J2 f3))
          have ik3 : ∀ k, ¬ k = 3 → z_u I2 1481 3 v 1481 k = I 1481 k := fun k hk => by rw [zu_nk hk, i81]; exact ik k hk
          by_cases c : v = -1
          · exact ih (k + 1) t2 _ J2 _ (by omega) (by omega) (ht.tr hu2) F3 hX3 (hP3.mono (by omega)) (by rw [zu_same]; exact c) ik3 (hv1 c)
          · have hv := hv2 c
            have := h t2 _ J2 (ht.tr hu2) F3 hX3 (hP3.mono (by omega)) (by rw [zu_same, esz, hv]) ik3
            rw [esz, hv] at this
            refine b170_16 ?_
            rw [zu_same]
            exact ⟨⟨by omega, by omega⟩, fun _ => this, fun _ => ⟨hvr, fun z => absurd z c, fun _ => this⟩⟩
        refine b170_48 ⟨⟨by omega, by omega⟩, fun c => go62 _ (fun z => ?_) (fun z => ?_) ⟨by omega, by omega⟩, fun c => go62 _ (fun z => by omega) (fun _ => ?_) ⟨by omega, by omega⟩⟩
        · rw [he, if_neg (by omega), if_neg (by omega)]
        · rw [he, if_pos (by omega)]; omega
        · rw [he, if_neg (by omega), if_pos (by omega)]
    refine b170_0 ?_
    rw [z]
    refine ⟨⟨by decide, by decide⟩, fun _ => ?_, fun q => absurd rfl q⟩
    have f2 : ∀ a, ¬ a = 1481 → z_u I 1481 3 (-1) a = I a := fun a ha => zu_ne ha
    exact loop 8 1 t _ J _ (by omega) (by omega) (tU.rf t) (FL.w J f2) (hX.w (fun a ha => f2 a (by omega))) (hP.w (fun a ha => f2 a (by omega))) (zu_same _ _ _ _) (fun k hk => zu_nk hk) rfl
  · have := h t I J (tU.rf t) (FL.rf I J) hX (hP.mono (by omega)) z (fun _ _ => rfl)
    refine b170_0 ?_
    rw [z, esz]
    rw [esz] at this
    exact ⟨⟨by omega, by omega⟩, fun q => by omega, fun _ => this⟩
theorem llA_in (D : tD) : ∀ f lw hg, lw ≤ hg → hg ≤ 999 → -2 ≤ llA D f lw hg ∧ llA D f lw hg ≤ 999 ∧ ¬ llA D f lw hg = -1 := by
  intro f
  induction f with
  | zero => intro lw hg _ h; show -2 ≤ (hg : Int) ∧ (hg : Int) ≤ 999 ∧ ¬ (hg : Int) = -1; omega
  | succ f ih =>
    intro lw hg h1 h2
    show -2 ≤ (if lw < hg then (if ag D (-1) (dHo D 0) ((lw + hg) / 2) = -2 then -2 else if 0 ≤ ag D (-1) (dHo D 0) ((lw + hg) / 2) then llA D f lw ((lw + hg) / 2) else llA D f ((lw + hg) / 2 + 1) hg) else (hg : Int)) ∧ (if lw < hg then (if ag D (-1) (dHo D 0) ((lw + hg) / 2) = -2 then -2 else if 0 ≤ ag D (-1) (dHo D 0) ((lw + hg) / 2) then llA D f lw ((lw + hg) / 2) else llA D f ((lw + hg) / 2 + 1) hg) else (hg : Int)) ≤ 999 ∧ ¬ (if lw < hg then (if ag D (-1) (dHo D 0) ((lw + hg) / 2) = -2 then -2 else if 0 ≤ ag D (-1) (dHo D 0) ((lw + hg) / 2) then llA D f lw ((lw + hg) / 2) else llA D f ((lw + hg) / 2 + 1) hg) else (hg : Int)) = -1
    split
    · split
      · omega
      · split
        · exact ih _ _ (by omega) (by omega)
        · exact ih _ _ (by omega) h2
    · omega
theorem k171 {n : Nat} (hd : 7 ≤ d) (hX : TX t I D) (hP : GP t I D n) (hn : n + 1001 < 2147483648) (hB : 0 < dB D) (h3 : I 1481 4 = -3 ∨ I 1481 4 = szA D 1)
    (h : ∀ (t' : zT) (I' J' : Nat → Nat → Int), tU t t' → FL I I' J J' → TX t' I' D → GP t' I' D (n + 1001) → I' 1481 4 = szA D 1 → (∀ k, ¬ k = 4 → I' 1481 k = I 1481 k) → Q (.inl (some (vi (szA D 1)))) (z_cfg t', I', J')) :
    Go sc d mt_171 0 [vr 1481, vr 839, vr 1057, vn, vn, vn, vn, vn, vn] [] (z_cfg t, I, J) Q := by
  have hD := hX.2.2.1.2.2.2
  have esz : szA D 1 = if ag D (-1) (dHo D 0) 999 < 0 then ag D (-1) (dHo D 0) 999 else llA D 999 0 999 := by unfold szA; rw [if_neg (by decide)]
  have hll := llA_in D 999 0 999 (by decide) (by decide)
  rcases h3 with z | z
  · -- the search
    have loop : ∀ (m i lw hg : Nat) (t1 : zT) (I1 J1 : Nat → Nat → Int) (x4 : Int) (v8 : zV), 0 ≤ ag D (-1) (dHo D 0) 999 → lw ≤ hg → hg ≤ 999 → hg - lw ≤ m → i + m = 999 → tU t t1 → FL I I1 J J1 → TX t1 I1 D → GP t1 I1 D (n + 1 + i) → (0 ≤ I1 1481 4 ∧ I1 1481 4 ≤ 2000) → (∀ k, ¬ k = 4 → I1 1481 k = I 1481 k) → llA D 999 0 999 = llA D m lw hg → Go sc d mt_171 66 [vr 1481, vr 839, vr 1057, vi (dHo D 0 : Int), vi x4, vi (lw : Int), vi (hg : Int), vi (i : Int), v8] [] (z_cfg t1, I1, J1) Q := by
      intro m
      induction m with
      | zero =>
        intro i lw hg t1 I1 J1 x4 v8 hag h1 h2 hm hi ht f1 hX1 hP1 i4 ik he
        have he : llA D 999 0 999 = (hg : Int) := he
        have hlh : lw = hg := by omega
        subst hlh
        have f3 : ∀ a, ¬ a = 1481 → z_u I1 1481 4 (lw : Int) a = I1 a := fun a ha => zu_ne ha
        have := h t1 _ J1 ht (f1.tr (FL.w J1 f3)) (hX1.w (fun a ha => f3 a (by omega))) ((hP1.w (fun a ha => f3 a (by omega))).mono (by omega)) (by rw [zu_same, esz, if_neg (by omega), he]) (fun k hk => by rw [zu_nk hk]; exact ik k hk)
        rw [esz, if_neg (by omega), he] at this
        have fin : Go sc d mt_171 153 [vr 1481, vr 839, vr 1057, vi (dHo D 0 : Int), vi x4, vi (lw : Int), vi (lw : Int), vi (i : Int), v8] [] (z_cfg t1, I1, J1) Q := b171_153 ⟨⟨by omega, by omega⟩, fun z => by omega, fun _ => this⟩
        exact b171_66 ⟨⟨by omega, by omega⟩, fun _ => fin, fun _ => ⟨⟨by omega, by omega⟩, ⟨by omega, by omega⟩, fun z => by omega, fun _ => fin⟩⟩
      | succ m ih =>
        intro i lw hg t1 I1 J1 x4 v8 hag h1 h2 hm hi ht f1 hX1 hP1 i4 ik he
        by_cases c : lw < hg
        · have he : llA D 999 0 999 = if lw < hg then (if ag D (-1) (dHo D 0) ((lw + hg) / 2) = -2 then -2 else if 0 ≤ ag D (-1) (dHo D 0) ((lw + hg) / 2) then llA D m lw ((lw + hg) / 2) else llA D m ((lw + hg) / 2 + 1) hg) else (hg : Int) := he
          rw [if_pos c] at he
          have emid : Int.tdiv ((lw : Int) + (hg : Int)) 2 = (((lw + hg) / 2 : Nat) : Int) := by
            rw [show (lw : Int) + (hg : Int) = ((lw + hg : Nat) : Int) by omega]
            rfl
          refine b171_66 ?_
          rw [emid]
          refine ⟨⟨by omega, by omega⟩, fun z => by omega, fun _ => ⟨⟨by omega, by omega⟩, ⟨by omega, by omega⟩, fun _ => ⟨⟨by omega, by omega⟩, fun z => by omega, fun _ => ⟨⟨⟨by omega, by omega⟩, ⟨by decide, by decide⟩, by decide⟩, ?_⟩⟩, fun z => by omega⟩⟩
          refine c24 (by omega) (fun d' _ => k24 hX1.2.2.1 (b171_104 ?_))
          obtain ⟨ho, lo, e6, e7, l6, l7, hbb⟩ := hX1.hold
          refine c25 (by omega) (fun d' _ => k25x (act := acts D (-1)) (by rw [acts_all]) rfl rfl (by omega) hX1 hP1 (acts_lt hD _) (by rw [← (hbb hB).1]; exact l6) (by omega) (fun t2 I2 J2 hu2 f2 hX2 hP2 g0 hO2 => ?_))
          have hin2 := ansG_in (D := D) hO2
          have ea : ansG D (gAll D (acts D (-1)) (dHo D 0) ((lw + hg) / 2)) = ag D (-1) (dHo D 0) ((lw + hg) / 2) := rfl
          rw [ea] at hin2 ⊢
          have i81 : I2 1481 = I1 1481 := f2.1 1481 (by decide) (by decide) (by decide) (by decide) (by decide) (by decide) (by decide) (by decide) (by decide) (by decide)
          have F2 : FL I I2 J J2 := f1.tr (FL.fu f2)
          refine b171_110 ⟨⟨by omega, by omega⟩, fun c2 => ?_, fun c2 => ⟨fun c3 => ?_, fun c3 => ?_⟩⟩
          · rw [if_pos c2] at he
            refine b171_147 ?_
            have f3 : ∀ a, ¬ a = 1481 → z_u I2 1481 4 (-2) a = I2 a := fun a ha => zu_ne ha
            have := h t2 _ J2 (ht.tr hu2) (F2.tr (FL.w J2 f3)) (hX2.w (fun a ha => f3 a (by omega))) ((hP2.w (fun a ha => f3 a (by omega))).mono (by omega)) (by rw [zu_same, esz, if_neg (by omega), he]) (fun k hk => by rw [zu_nk hk, i81]; exact ik k hk)
            rw [esz, if_neg (by omega), he] at this
            have fin : ∀ (y4 y5 y6 y7 : Int) (w8 : zV), Go sc d mt_171 153 [vr 1481, vr 839, vr 1057, vi (dHo D 0 : Int), vi y4, vi y5, vi y6, vi y7, w8] [] (z_cfg t2, z_u I2 1481 4 (-2), J2) Q := fun y4 y5 y6 y7 w8 => b171_153 (by
              rw [zu_same]
              exact ⟨⟨by decide, by decide⟩, fun _ => this, fun z => absurd z (by decide)⟩)
            refine b171_66 ?_
            rw [zu_same]
            exact ⟨⟨by omega, by omega⟩, fun _ => fin _ _ _ _ _, fun _ => ⟨⟨by omega, by omega⟩, ⟨by omega, by omega⟩, fun _ => ⟨⟨by decide, by decide⟩, fun _ => fin _ _ _ _ _, fun z => absurd rfl z⟩, fun _ => fin _ _ _ _ _⟩⟩
          · rw [if_neg c2, if_neg (by omega)] at he
            refine b171_147 ?_
            rw [show (((lw + hg) / 2 : Nat) : Int) + 1 = (((lw + hg) / 2 + 1 : Nat) : Int) by omega, show (i : Int) + 1 = ((i + 1 : Nat) : Int) by omega]
            exact ih (i + 1) ((lw + hg) / 2 + 1) hg t2 I2 J2 _ _ hag (by omega) h2 (by omega) (by omega) (ht.tr hu2) F2 hX2 (hP2.mono (by omega)) (by rw [i81]; exact i4) (fun k hk => by rw [i81]; exact ik k hk) he
          · rw [if_neg c2, if_pos (by omega)] at he
            refine b171_147 ?_
            rw [show (i : Int) + 1 = ((i + 1 : Nat) : Int) by omega]
            exact ih (i + 1) lw ((lw + hg) / 2) t2 I2 J2 _ _ hag (by omega) (by omega) (by omega) (by omega) (ht.tr hu2) F2 hX2 (hP2.mono (by omega)) (by rw [i81]; exact i4) (fun k hk => by rw [i81]; exact ik k hk) he
        · have he : llA D 999 0 999 = if lw < hg then (if ag D (-1) (dHo D 0) ((lw + hg) / 2) = -2 then -2 else if 0 ≤ ag D (-1) (dHo D 0) ((lw + hg) / 2) then llA D m lw ((lw + hg) / 2) else llA D m ((lw + hg) / 2 + 1) hg) else (hg : Int) := he
          rw [if_neg c] at he
          have hlh : lw = hg := by omega
          subst hlh
          have f3 : ∀ a, ¬ a = 1481 → z_u I1 1481 4 (lw : Int) a = I1 a := fun a ha => zu_ne ha
          have := h t1 _ J1 ht (f1.tr (FL.w J1 f3)) (hX1.w (fun a ha => f3 a (by omega))) ((hP1.w (fun a ha => f3 a (by omega))).mono (by omega)) (by rw [zu_same, esz, if_neg (by omega), he]) (fun k hk => by rw [zu_nk hk]; exact ik k hk)
          rw [esz, if_neg (by omega), he] at this
          have fin : Go sc d mt_171 153 [vr 1481, vr 839, vr 1057, vi (dHo D 0 : Int), vi x4, vi (lw : Int), vi (lw : Int), vi (i : Int), v8] [] (z_cfg t1, I1, J1) Q := b171_153 ⟨⟨by omega, by omega⟩, fun z => by omega, fun _ => this⟩
          exact b171_66 ⟨⟨by omega, by omega⟩, fun _ => fin, fun _ => ⟨⟨by omega, by omega⟩, ⟨by omega, by omega⟩, fun z => by omega, fun _ => fin⟩⟩
    refine b171_0 ?_
    obtain ⟨ho, lo, e6, e7, l6, l7, hbb⟩ := hX.hold
    rw [z, e6, (hbb hB).1]
    refine ⟨⟨by decide, by decide⟩, fun _ => ?_, fun q => absurd rfl q⟩
    refine c24 (by omega) (fun d' _ => k24 hX.2.2.1 (b171_29 ?_))
    refine c25 (by omega) (fun d' _ => k25x (act := acts D (-1)) (lo := 999) (by rw [acts_all]) rfl rfl (by omega) hX hP (acts_lt hD _) (by rw [← (hbb hB).1]; exact l6) (by omega) (fun t2 I2 J2 hu2 f2 hX2 hP2 g0 hO2 => ?_))
    have hin2 := ansG_in (D := D) hO2
    have ea : ansG D (gAll D (acts D (-1)) (dHo D 0) 999) = ag D (-1) (dHo D 0) 999 := rfl
    rw [ea] at hin2 ⊢
    have i81 : I2 1481 = I 1481 := f2.1 1481 (by decide) (by decide) (by decide) (by decide) (by decide) (by decide) (by decide) (by decide) (by decide) (by decide)
    have f3 : ∀ a, ¬ a = 1481 → z_u I2 1481 4 (ag D (-1) (dHo D 0) 999) a = I2 a := fun a ha => zu_ne ha
    have hX3 := hX2.w (I' := z_u I2 1481 4 (ag D (-1) (dHo D 0) 999)) (fun a ha => f3 a (by omega))
    have hP3 := hP2.w (I' := z_u I2 1481 4 (ag D (-1) (dHo D 0) 999)) (fun a ha => f3 a (by omega))
    have F3 : FL I (z_u I2 1481 4 (ag D (-1) (dHo D 0) 999)) J J2 := (FL.fu f2).tr (FL.w J2 f3)
    have ik3 : ∀ k, ¬ k = 4 → z_u I2 1481 4 (ag D (-1) (dHo D 0) 999) 1481 k = I 1481 k := fun k hk => by rw [zu_nk hk, i81]
    refine b171_36 ⟨⟨by omega, by omega⟩, fun c => b171_50 ?_, fun c => b171_50 ?_⟩
    · have := h t2 _ J2 hu2 F3 hX3 (hP3.mono (by omega)) (by rw [zu_same, esz, if_pos c]) ik3
      rw [esz, if_pos c] at this
      have fin : Go sc d mt_171 153 [vr 1481, vr 839, vr 1057, vi (dHo D 0 : Int), vi (ag D (-1) (dHo D 0) 999), vi 999, vi 999, vi 0, vn] [] (z_cfg t2, z_u I2 1481 4 (ag D (-1) (dHo D 0) 999), J2) Q := b171_153 (by
        rw [zu_same]
        exact ⟨⟨by omega, by omega⟩, fun _ => this, fun z => by omega⟩)
      exact b171_66 ⟨⟨by decide, by decide⟩, fun z => absurd z (by decide), fun _ => ⟨⟨by decide, by decide⟩, ⟨by decide, by decide⟩, fun z => absurd z (by decide), fun _ => fin⟩⟩
    · exact loop 999 0 0 999 t2 _ J2 _ _ (by omega) (by omega) (by omega) (by omega) (by omega) hu2 F3 hX3 (hP3.mono (by omega)) (by rw [zu_same]; omega) ik3 rfl
  · have := h t I J (tU.rf t) (FL.rf I J) hX (hP.mono (by omega)) z (fun _ _ => rfl)
    have hsr : inR (szA D 1) ∧ ¬ szA D 1 = -3 := by
      rw [esz]
      by_cases q : ag D (-1) (dHo D 0) 999 < 0
      · rw [if_pos q]
        unfold ag at q ⊢
        have : -2 ≤ ansG D (gAll D (acts D (-1)) (dHo D 0) 999) := by
          unfold ansG
          split
          · decide
          · rcases gg_sp (D := D) (X := gX (gAll D (acts D (-1)) (dHo D 0) 999)) (Dp := gDp (gAll D (acts D (-1)) (dHo D 0) 999)) (gN (gAll D (acts D (-1)) (dHo D 0) 999)) with ⟨y, -⟩ | ⟨i, -, -, y, -⟩
            · rw [y]; decide
            · rw [y]; omega
        exact ⟨⟨by omega, by omega⟩, by omega⟩
      · rw [if_neg q]
        exact ⟨⟨by omega, by omega⟩, by omega⟩
    refine b171_0 ?_
    rw [z]
    exact ⟨hsr.1, fun q => absurd q hsr.2, fun _ => this⟩
end
