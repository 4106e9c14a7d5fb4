/-! ===== the two readers: the reference's goes ===== -/
section
variable {sc : mS} {d : Nat} {t : zT} {I J : Nat → Nat → Int} {Q : zR → zW → Prop} {B : Nat → Nat} {n : Nat}
theorem bA_lt {p : Nat} (hB : RBy I B) (hn : n ≤ 700) : bA B n p < 256 := by
  unfold bA
  split
  · exact (hB p (by omega)).2
  · decide
theorem k190 {p : Nat} (hd : 1 ≤ d) (hB : RBy I B) (hn : n ≤ 700) (h21 : I 1835 21 = n) (h22 : I 1835 22 = p) (hp : p ≤ n) (h : ∀ (I' J' : Nat → Nat → Int), yF I J I' J' → I' 1835 19 = I 1835 19 → I' 1835 20 = I 1835 20 → RTk I' J' B n p → Q (.inl none) (z_cfg t, I', J')) : Go sc d mt_190 0 [vr 1835, vn] [] (z_cfg t, I, J) Q := by
  have hs := xS_r (B := B) hp
  have at21 : ∀ I1 J1, yF I J I1 J1 → I1 1835 21 = n := fun I1 J1 f => by rw [f.2.1 21 (by decide) (by decide) (by omega)]; exact h21
  have skip : ∀ (m q : Nat) (I1 : Nat → Nat → Int), q + m = n → yF I J I1 J → I1 1835 19 = I 1835 19 → I1 1835 20 = I 1835 20 → I1 1835 22 = q → (∀ (I2 : Nat → Nat → Int), yF I J I2 J → I2 1835 19 = I 1835 19 → I2 1835 20 = I 1835 20 → I2 1835 22 = xScn xB B m q → Go sc d mt_190 50 [vr 1835, vn] [] (z_cfg t, I2, J) Q) → Go sc d mt_190 0 [vr 1835, vn] [] (z_cfg t, I1, J) Q := by
    intro m
    induction m with
    | zero =>
      intro q I1 hq f1 g1 g2 e3 hk
      refine b190_0 ?_
      rw [e3, at21 I1 J f1]
      exact ⟨⟨by omega, by omega⟩, ⟨by omega, by omega⟩, fun z => by omega, fun _ => hk I1 f1 g1 g2 e3⟩
    | succ m ih =>
      intro q I1 hq f1 g1 g2 e3 hk
      have B1 := hB.fr f1
      have hbA : bA B n q = B q := by unfold bA; rw [if_pos (by omega)]
      have hb := (B1 q (by omega)).2
      have nx : xB (B q) = true → Go sc d mt_190 37 [vr 1835, vn] [] (z_cfg t, I1, J) Q := fun z => by
        rw [xScn_y z] at hk
        refine b190_37 ?_
        rw [e3, show (q : Int) + 1 = ((q + 1 : Nat) : Int) by omega]
        exact ih (q + 1) _ (by omega) (f1.tr (yF.u (by omega))) (by rw [zu_nk (by decide)]; exact g1) (by rw [zu_nk (by decide)]; exact g2) (zu_same _ _ _ _) hk
      refine b190_0 ?_
      rw [e3, at21 I1 J f1]
      refine ⟨⟨by omega, by omega⟩, ⟨by omega, by omega⟩, fun _ => ?_, fun z => by omega⟩
      refine c191 hd (fun d' _ => k191 rfl B1 hn (at21 I1 J f1) (by omega) (b190_19 ?_))
      rw [hbA, e3]
      refine ⟨⟨by omega, by omega⟩, fun c => nx (xB_iff.2 (by omega)), fun c => ?_⟩
      refine c191 hd (fun d' _ => k191 rfl B1 hn (at21 I1 J f1) (by omega) (b190_32 ?_))
      rw [hbA]
      refine ⟨⟨by omega, by omega⟩, fun c2 => nx (xB_iff.2 (by omega)), fun c2 => ?_⟩
      rw [xScn_n (b_no (fun z => by have := xB_iff.1 z; omega : ¬ xB (B q) = true))] at hk
      exact hk I1 f1 g1 g2 e3
  have letters : ∀ (m q s : Nat) (x1 : Int) (I1 J1 : Nat → Nat → Int), q + m = n → s ≤ q → yF I J I1 J1 → I1 1835 22 = q → I1 1835 24 = s → J1 1835 28 = ((eW B s (min 7 (q - s)) : Nat) : Int) → (∀ i, s ≤ i → i < q → xL (B i) = true) → (∀ (I2 J2 : Nat → Nat → Int), yF I J I2 J2 → I2 1835 22 = xScn xL B m q → (∀ k, ¬ k = 22 → I2 1835 k = I1 1835 k) → J2 1835 28 = ((eW B s (min 7 (xScn xL B m q - s)) : Nat) : Int) → Go sc d mt_190 331 [vr 1835, vi x1] [] (z_cfg t, z_u I2 1835 23 1, J2) Q) → Go sc d mt_190 108 [vr 1835, vi x1] [] (z_cfg t, I1, J1) Q := by
    intro m
    induction m with
    | zero =>
      intro q s x1 I1 J1 hq hsq f1 e3 e4 e8 hl hk
      have B1 := hB.fr f1
      refine b190_108 ?_
      rw [e3]
      refine c191 hd (fun d' _ => k191 rfl B1 hn (at21 I1 J1 f1) (by omega) (b190_116 ?_))
      have hbA : bA B n q = 0 := by unfold bA; rw [if_neg (by omega)]
      rw [hbA]
      refine c192 hd (fun d' _ => k192 rfl (by decide) (b190_119 ?_))
      exact ⟨⟨by decide, by decide⟩, fun _ => hk I1 J1 f1 e3 (fun _ _ => rfl) e8, fun z => absurd rfl z⟩
    | succ m ih =>
      intro q s x1 I1 J1 hq hsq f1 e3 e4 e8 hl hk
      have B1 := hB.fr f1
      have hbA : bA B n q = B q := by unfold bA; rw [if_pos (by omega)]
      have hb := (B1 q (by omega)).2
      refine b190_108 ?_
      rw [e3]
      refine c191 hd (fun d' _ => k191 rfl B1 hn (at21 I1 J1 f1) (by omega) (b190_116 ?_))
      rw [hbA]
      refine c192 hd (fun d' _ => k192 rfl hb (b190_119 ?_))
      cases hx : xL (B q) with
      | false =>
        rw [xScn_n hx] at hk
        exact ⟨⟨by decide, by decide⟩, fun _ => hk I1 J1 f1 e3 (fun _ _ => rfl) e8, fun z => absurd rfl z⟩
      | true =>
        rw [xScn_y hx] at hk
        have hq2 := xL_iff.1 hx
        have nx : ∀ J2 : Nat → Nat → Int, yF I J I1 J2 → J2 1835 28 = ((eW B s (min 7 (q + 1 - s)) : Nat) : Int) → Go sc d mt_190 159 [vr 1835, vi x1] [] (z_cfg t, I1, J2) Q := fun J2 f2 g8 => by
          refine b190_159 ?_
          rw [e3, show (q : Int) + 1 = ((q + 1 : Nat) : Int) by omega]
          refine ih (q + 1) s x1 _ J2 (by omega) (by omega) (f2.tr (yF.u (by omega))) (zu_same _ _ _ _) (by rw [zu_nk (by decide)]; exact e4) g8 (fun i h1 h2 => ?_) (fun I3 J3 f3 g1 g2 g3 => hk I3 J3 f3 g1 (fun k hk2 => by rw [g2 k hk2, zu_nk hk2]) g3)
          by_cases z : i = q
          · rw [z]; exact hx
          · exact hl i h1 (by omega)
        rw [e3, e4]
        refine ⟨⟨by decide, by decide⟩, fun z => absurd z (by decide), fun _ => ⟨⟨by omega, by omega⟩, fun c => ?_, fun c => nx J1 f1 (by rw [e8, show min 7 (q - s) = 7 by omega, show min 7 (q + 1 - s) = 7 by omega])⟩⟩
        refine c191 hd (fun d' _ => k191 rfl B1 hn (at21 I1 J1 f1) (by omega) (b190_151 ?_))
        rw [hbA, e8, show min 7 (q - s) = q - s by omega]
        have hlt : eW B s (q - s) < 32 ^ (q - s) := eW_lt (q - s) (fun i hi => (xL_iff.1 (hl (s + i) (by omega) (by omega))).2)
        have hp : 32 ^ (q - s) ≤ 32 ^ 6 := Nat.pow_le_pow_right (by omega) (by omega)
        rw [show ((B q : Nat) : Int) - 96 = ((B q - 96 : Nat) : Int) by omega, zlv (by omega) (by omega)]
        refine ⟨⟨by omega, by omega⟩, nx _ (f1.tr yF.j) ?_⟩
        rw [zu_same, show min 7 (q + 1 - s) = q - s + 1 by omega]
        show _ = ((eW B s (q - s) * 32 + (B (s + (q - s)) - 96) : Nat) : Int)
        rw [show s + (q - s) = q by omega]
  have digits : ∀ (m q s : Nat) (x1 : Int) (I1 J1 : Nat → Nat → Int), q + m = n → s ≤ q → yF I J I1 J1 → I1 1835 22 = q → I1 1835 24 = s → I1 1835 26 = ((xVal B s (min 3 (q - s)) : Nat) : Int) → (∀ (I2 : Nat → Nat → Int), yF I J I2 J1 → I2 1835 22 = xScn xD B m q → I2 1835 26 = ((xVal B s (min 3 (xScn xD B m q - s)) : Nat) : Int) → (∀ k, ¬ k = 22 → ¬ k = 26 → I2 1835 k = I1 1835 k) → Go sc d mt_190 331 [vr 1835, vi x1] [] (z_cfg t, z_u I2 1835 23 2, J1) Q) → Go sc d mt_190 187 [vr 1835, vi x1] [] (z_cfg t, I1, J1) Q := by
    intro m
    induction m with
    | zero =>
      intro q s x1 I1 J1 hq hsq f1 e3 e4 e6 hk
      have B1 := hB.fr f1
      refine b190_187 ?_
      rw [e3]
      refine c191 hd (fun d' _ => k191 rfl B1 hn (at21 I1 J1 f1) (by omega) (b190_195 ?_))
      have hbA : bA B n q = 0 := by unfold bA; rw [if_neg (by omega)]
      rw [hbA]
      refine c193 hd (fun d' _ => k193 rfl (by decide) (b190_198 ?_))
      exact ⟨⟨by decide, by decide⟩, fun _ => hk I1 f1 e3 e6 (fun _ _ _ => rfl), fun z => absurd rfl z⟩
    | succ m ih =>
      intro q s x1 I1 J1 hq hsq f1 e3 e4 e6 hk
      have B1 := hB.fr f1
      have hbA : bA B n q = B q := by unfold bA; rw [if_pos (by omega)]
      have hb := (B1 q (by omega)).2
      refine b190_187 ?_
      rw [e3]
      refine c191 hd (fun d' _ => k191 rfl B1 hn (at21 I1 J1 f1) (by omega) (b190_195 ?_))
      rw [hbA]
      refine c193 hd (fun d' _ => k193 rfl hb (b190_198 ?_))
      cases hx : xD (B q) with
      | false =>
        rw [xScn_n hx] at hk
        exact ⟨⟨by decide, by decide⟩, fun _ => hk I1 f1 e3 e6 (fun _ _ _ => rfl), fun z => absurd rfl z⟩
      | true =>
        rw [xScn_y hx] at hk
        have hq2 := xD_iff.1 hx
        have nx : ∀ I2 : Nat → Nat → Int, yF I J I2 J1 → I2 1835 22 = q → I2 1835 24 = s → I2 1835 26 = ((xVal B s (min 3 (q + 1 - s)) : Nat) : Int) → (∀ k, ¬ k = 22 → ¬ k = 26 → I2 1835 k = I1 1835 k) → Go sc d mt_190 237 [vr 1835, vi x1] [] (z_cfg t, I2, J1) Q := fun I2 f2 g3 g4 g6 gk => by
          refine b190_237 ?_
          rw [g3, show (q : Int) + 1 = ((q + 1 : Nat) : Int) by omega]
          exact ih (q + 1) s x1 _ J1 (by omega) (by omega) (f2.tr (yF.u (by omega))) (zu_same _ _ _ _) (by rw [zu_nk (by decide)]; exact g4) (by rw [zu_nk (by decide)]; exact g6) (fun I3 f3 h1 h2 h3 => hk I3 f3 h1 h2 (fun k k1 k2 => by rw [h3 k k1 k2, zu_nk k1]; exact gk k k1 k2))
        rw [e3, e4]
        refine ⟨⟨by decide, by decide⟩, fun z => absurd z (by decide), fun _ => ⟨⟨by omega, by omega⟩, fun c => ?_, fun c => nx I1 f1 e3 e4 (by rw [e6, show min 3 (q - s) = 3 by omega, show min 3 (q + 1 - s) = 3 by omega]) (fun _ _ _ => rfl)⟩⟩
        refine c191 hd (fun d' _ => k191 rfl B1 hn (at21 I1 J1 f1) (by omega) (b190_230 ?_))
        refine nx _ (f1.tr (yF.u (by omega))) (by rw [zu_nk (by decide)]; exact e3) (by rw [zu_nk (by decide)]; exact e4) ?_ (fun k k1 k2 => by rw [zu_nk k2])
        rw [zu_same, hbA, e6, show min 3 (q - s) = q - s by omega, show min 3 (q + 1 - s) = q - s + 1 by omega]
        show _ = ((xVal B s (q - s) * 10 + (B (s + (q - s)) - 48) : Nat) : Int)
        rw [show s + (q - s) = q by omega]
        omega
  refine skip (n - p) p I (by omega) (yF.rf I J) rfl rfl h22 (fun I1 f1 g1 g2 e3 => ?_)
  have e3 : I1 1835 22 = xS B n p := e3
  refine b190_50 ?_
  rw [e3]
  have F2 : yF I J (z_u (z_u I1 1835 24 ((xS B n p : Nat) : Int)) 1835 26 0) (z_u J 1835 28 0) := (f1.tr ((yF.u (by omega)).tr (yF.u (by omega)))).tr yF.j
  have k2 : ∀ k, ¬ k = 24 → ¬ k = 26 → z_u (z_u I1 1835 24 ((xS B n p : Nat) : Int)) 1835 26 0 1835 k = I1 1835 k := fun k a b => by rw [zu_nk b, zu_nk a]
  have k24 : z_u (z_u I1 1835 24 ((xS B n p : Nat) : Int)) 1835 26 0 1835 24 = xS B n p := by rw [zu_nk (by decide), zu_same]
  have k26 : z_u (z_u I1 1835 24 ((xS B n p : Nat) : Int)) 1835 26 0 1835 26 = 0 := zu_same _ _ _ _
  generalize z_u (z_u I1 1835 24 ((xS B n p : Nat) : Int)) 1835 26 0 = I2 at F2 k2 k24 k26 ⊢
  have j28 : z_u J 1835 28 0 1835 28 = 0 := zu_same _ _ _ _
  generalize z_u J 1835 28 0 = J2 at F2 j28 ⊢
  have B2 := hB.fr F2
  have k22 : I2 1835 22 = xS B n p := by rw [k2 22 (by decide) (by decide)]; exact e3
  refine c191 hd (fun d' _ => k191 rfl B2 hn (at21 I2 J2 F2) (by omega) (b190_76 ?_))
  have hc := bA_lt (p := xS B n p) B2 hn
  rw [k22, at21 I2 J2 F2]
  have F3 : yF I J (z_u I2 1835 27 ((bA B n (xS B n p) : Nat) : Int)) J2 := F2.tr (yF.u (by omega))
  have k3 : ∀ k, ¬ k = 27 → z_u I2 1835 27 ((bA B n (xS B n p) : Nat) : Int) 1835 k = I2 1835 k := fun k hk => zu_nk hk
  have k27 : z_u I2 1835 27 ((bA B n (xS B n p) : Nat) : Int) 1835 27 = bA B n (xS B n p) := zu_same _ _ _ _
  generalize z_u I2 1835 27 ((bA B n (xS B n p) : Nat) : Int) = I3 at F3 k3 k27 ⊢
  /- the end: the length -/
  have fin : ∀ (I4 J4 : Nat → Nat → Int) (x1 : Int) (kd : Nat), yF I J I4 J4 → I4 1835 19 = I 1835 19 → I4 1835 20 = I 1835 20 → I4 1835 22 = xE B n p → I4 1835 24 = xS B n p → I4 1835 26 = ((if xK B n p = 2 then xV B n p else 0 : Nat) : Int) → I4 1835 27 = bA B n (xS B n p) → J4 1835 28 = ((if xK B n p = 1 then eW B (xS B n p) (min 7 (xE B n p - xS B n p)) else 0 : Nat) : Int) → kd = xK B n p → Go sc d mt_190 331 [vr 1835, vi x1] [] (z_cfg t, z_u I4 1835 23 (kd : Int), J4) Q := by
    intro I4 J4 x1 kd f4 a19 a20 a22 a24 a26 a27 a28 ak
    have hE := xE_r (B := B) hp
    refine b190_331 (h _ J4 (f4.tr ((yF.u (by omega)).tr (yF.u (by omega)))) (by rw [zu_nk (by decide), zu_nk (by decide)]; exact a19) (by rw [zu_nk (by decide), zu_nk (by decide)]; exact a20) ⟨?_, ?_, ?_, ?_, ?_, ?_, ?_, a28⟩)
    · rw [zu_nk (by decide), zu_nk (by decide)]; exact at21 I4 J4 f4
    · rw [zu_nk (by decide), zu_nk (by decide)]; exact a22
    · rw [zu_nk (by decide), zu_same, ak]
    · rw [zu_nk (by decide), zu_nk (by decide)]; exact a24
    · rw [zu_same, zu_nk (by decide), zu_nk (by decide), a22, a24]; omega
    · rw [zu_nk (by decide), zu_nk (by decide)]; exact a26
    · rw [zu_nk (by decide), zu_nk (by decide)]; exact a27
  have s19 : I3 1835 19 = I 1835 19 := by rw [k3 19 (by decide), k2 19 (by decide) (by decide)]; exact g1
  have s20 : I3 1835 20 = I 1835 20 := by rw [k3 20 (by decide), k2 20 (by decide) (by decide)]; exact g2
  have s22 : I3 1835 22 = xS B n p := by rw [k3 22 (by decide)]; exact k22
  have s24 : I3 1835 24 = xS B n p := by rw [k3 24 (by decide)]; exact k24
  have s26 : I3 1835 26 = 0 := by rw [k3 26 (by decide)]; exact k26
  refine ⟨⟨by omega, by omega⟩, ⟨by omega, by omega⟩, fun c => ?_, fun c => ?_⟩
  · have hlt : ¬ n ≤ xS B n p := by omega
    have hbA : bA B n (xS B n p) = B (xS B n p) := by unfold bA; rw [if_pos (by omega)]
    refine c192 hd (fun d' _ => k192 rfl hc (b190_105 ?_))
    cases hl : xL (bA B n (xS B n p)) with
    | true =>
      rw [hbA] at hl
      have ek : xK B n p = 1 := by unfold xK; rw [if_neg hlt, if_pos hl]
      have ee : xE B n p = xScn xL B (n - xS B n p) (xS B n p) := by unfold xE; rw [if_neg hlt, if_pos hl]
      refine ⟨⟨by decide, by decide⟩, fun z => absurd z (by decide), fun _ => ?_⟩
      refine letters (n - xS B n p) (xS B n p) (xS B n p) _ I3 J2 (by omega) (Nat.le_refl _) F3 s22 s24 (by rw [j28, Nat.sub_self]; rfl) (fun i h1 h2 => absurd h1 (by omega)) (fun I4 J4 f4 q1 q2 q3 => ?_)
      exact fin I4 J4 _ 1 f4 (by rw [q2 19 (by decide)]; exact s19) (by rw [q2 20 (by decide)]; exact s20) (by rw [q1, ee]) (by rw [q2 24 (by decide)]; exact s24) (by rw [q2 26 (by decide), s26, if_neg (by omega)]; rfl) (by rw [q2 27 (by decide)]; exact k27) (by rw [q3, if_pos ek, ee]) ek.symm
    | false =>
      rw [hbA] at hl
      have hl' : ¬ xL (B (xS B n p)) = true := by rw [hl]; decide
      refine ⟨⟨by decide, by decide⟩, fun _ => ?_, fun z => absurd rfl z⟩
      refine c193 hd (fun d' _ => k193 rfl hc (b190_184 ?_))
      cases hg : xD (bA B n (xS B n p)) with
      | true =>
        rw [hbA] at hg
        have ek : xK B n p = 2 := by unfold xK; rw [if_neg hlt, if_neg hl', if_pos hg]
        have ee : xE B n p = xScn xD B (n - xS B n p) (xS B n p) := by unfold xE; rw [if_neg hlt, if_neg hl', if_pos hg]
        refine ⟨⟨by decide, by decide⟩, fun z => absurd z (by decide), fun _ => ?_⟩
        refine digits (n - xS B n p) (xS B n p) (xS B n p) _ I3 J2 (by omega) (Nat.le_refl _) F3 s22 s24 (by rw [s26, Nat.sub_self]; rfl) (fun I4 f4 q1 q2 q3 => ?_)
        exact fin I4 J2 _ 2 f4 (by rw [q3 19 (by decide) (by decide)]; exact s19) (by rw [q3 20 (by decide) (by decide)]; exact s20) (by rw [q1, ee]) (by rw [q3 24 (by decide) (by decide)]; exact s24) (by rw [q2, if_pos ek]; unfold xV; rw [ee]) (by rw [q3 27 (by decide) (by decide)]; exact k27) (by rw [j28, if_neg (by omega)]; rfl) ek.symm
      | false =>
        rw [hbA] at hg
        have hg' : ¬ xD (B (xS B n p)) = true := by rw [hg]; decide
        have ee : xE B n p = xS B n p + 1 := by unfold xE; rw [if_neg hlt, if_neg hl', if_neg hg']
        have ek34 : xK B n p = if xG (B (xS B n p)) = true then 3 else 4 := by unfold xK; rw [if_neg hlt, if_neg hl', if_neg hg']
        have f4 : yF I J (z_u I3 1835 22 ((I3 1835 22) + 1)) J2 := F3.tr (yF.u (by omega))
        have last : ∀ kd : Nat, kd = xK B n p → Go sc d mt_190 331 [vr 1835, vi ((bA B n (xS B n p) : Nat) : Int)] [] (z_cfg t, z_u (z_u I3 1835 22 ((I3 1835 22) + 1)) 1835 23 (kd : Int), J2) Q := fun kd hkd => by
          have hk34 : ¬ xK B n p = 2 ∧ ¬ xK B n p = 1 := by rw [ek34]; split <;> decide
          exact fin _ J2 _ kd f4 (by rw [zu_nk (by decide)]; exact s19) (by rw [zu_nk (by decide)]; exact s20) (by rw [zu_same, s22, ee]; omega) (by rw [zu_nk (by decide)]; exact s24) (by rw [zu_nk (by decide), s26, if_neg hk34.1]; rfl) (by rw [zu_nk (by decide)]; exact k27) (by rw [j28, if_neg hk34.2]; rfl) hkd
        have gy : (B (xS B n p) = 59 ∨ B (xS B n p) = 40 ∨ B (xS B n p) = 41 ∨ B (xS B n p) = 43 ∨ B (xS B n p) = 45 ∨ B (xS B n p) = 42 ∨ B (xS B n p) = 47 ∨ B (xS B n p) = 60 ∨ B (xS B n p) = 61) → Go sc d mt_190 323 [vr 1835, vi ((bA B n (xS B n p) : Nat) : Int)] [vr 1835] (z_cfg t, z_u I3 1835 22 ((I3 1835 22) + 1), J2) Q := fun z => b190_323 (b190_328 (last 3 (by rw [ek34, if_pos (by unfold xG; exact decide_eq_true z)])))
        refine ⟨⟨by decide, by decide⟩, fun _ => ⟨⟨by omega, by omega⟩, fun c => gy (by omega), fun c1 => ⟨fun c => gy (by omega), fun c2 => ⟨fun c => gy (by omega), fun c3 => ⟨fun c => gy (by omega), fun c4 => ⟨fun c => gy (by omega), fun c5 => ⟨fun c => gy (by omega), fun c6 => ⟨fun c => gy (by omega), fun c7 => ⟨fun c => gy (by omega), fun c8 => ⟨fun c => gy (by omega), fun c9 => ?_⟩⟩⟩⟩⟩⟩⟩⟩⟩, fun z => absurd rfl z⟩
        refine b190_328 (last 4 (by rw [ek34, if_neg]; unfold xG; rw [decide_eq_true_iff]; omega))
  · have hge : n ≤ xS B n p := by omega
    have ek : xK B n p = 0 := by unfold xK; rw [if_pos hge]
    have ee : xE B n p = xS B n p := by unfold xE; rw [if_pos hge]
    exact fin I3 J2 _ 0 F3 s19 s20 (by rw [s22, ee]) s24 (by rw [s26, if_neg (by omega)]; rfl) k27 (by rw [j28, if_neg (by omega)]; rfl) ek.symm
end
