/-! ===== the reference's expressions: the rules of the yard hold ===== -/
def yB1 (base : Nat) (u p : Nat) (W O : List Int) : Prop := 2 * (base + O.length + W.length) ≤ 3 * p + u ∧ W.length ≤ p
section
variable {sc : mS} {d : Nat} {t : zT} {I J I0 J0 : Nat → Nat → Int} {Q : zR → zW → Prop} {B : Nat → Nat} {n : Nat} {D : tD} {base : Nat} {W O : List Int} {T : List Bool} {x1 : Int}
def yH (sc : mS) (d : Nat) (t : zT) (B : Nat → Nat) (n base : Nat) (x1 : Int) (I0 J0 : Nat → Nat → Int) (Q : zR → zW → Prop) (p : Nat) (W O : List Int) (T : List Bool) : Prop := ∀ (I J : Nat → Nat → Int) (v3 : zV), RP I J B n (.inl p) → YF I0 J0 I J base → YV I base W O T → yB1 base 1 p W O → Go sc d mt_210 35 [vr 1835, vi x1, vi 1, v3] [] (z_cfg t, I, J) Q
def yZ (t : zT) (B : Nat → Nat) (n base : Nat) (x1 : Int) (I0 J0 : Nat → Nat → Int) (Q : zR → zW → Prop) (e : Nat × Nat) : Prop := ∀ (I J : Nat → Nat → Int), RP I J B n (.inr e) → YF I0 J0 I J base → Q (.inl (some (vi x1))) (z_cfg t, I, J)
def yE (t : zT) (B : Nat → Nat) (n base : Nat) (x1 : Int) (I0 J0 : Nat → Nat → Int) (Q : zR → zW → Prop) (q : Nat) (O : List Int) : Prop := ∀ (I J : Nat → Nat → Int), RP I J B n (.inl q) → YF I0 J0 I J base → I 1835 34 = ((base + O.length + 1 : Nat) : Int) → rowAt (I 2484) base (O ++ [0]) → 2 * (base + O.length) ≤ 3 * q + 1 → Q (.inl (some (vi x1))) (z_cfg t, I, J)
def yQ (sc : mS) (d : Nat) (t : zT) (B : Nat → Nat) (n base : Nat) (x1 : Int) (I0 J0 : Nat → Nat → Int) (Q : zR → zW → Prop) (b : Bool) (k p : Nat) (W O : List Int) (T : List Bool) : Prop := ∀ (I J : Nat → Nat → Int) (v3 : zV) (y1 y3 : Int) (K : zR → zW → Prop), (∀ (I' J' : Nat → Nat → Int), Go sc d mt_210 35 [vr 1835, vi x1, vi 1, v3] [] (z_cfg t, I', J') Q → K (.inl none) (z_cfg t, I', J')) → ¬ y3 = 0 → inR y3 → RP I J B n (.inl p) → YF I0 J0 I J base → YV I base W O T → yB1 base 0 p W O → ∀ d', d = d' + 1 → Go sc d' mt_212 18 [vr 1835, vi y1, vi ((b.toNat : Nat) : Int), vi y3, vi ((k : Nat) : Int)] [] (z_cfg t, I, J) K
theorem RP.n7 {p : Nat} (h : RP I J B n (.inl p)) : p ≤ n ∧ n ≤ 700 := by
  obtain ⟨_, h2, q, h3, _, h5, _⟩ := h
  exact ⟨by omega, h2⟩
theorem ysplit : ∀ (W : List Int), (∀ a, a ∈ W → 3 ≤ a ∧ a ≤ 12) → ∃ P W', W = P ++ W' ∧ yHi 0 P ∧ yLow 0 W' := by
  intro W
  induction W with
  | nil => intro _; exact ⟨[], [], rfl, yHi.nil 0, fun a W' e => by cases e⟩
  | cons a W ih =>
    intro h
    have ha := h a List.mem_cons_self
    by_cases c : a = 12
    · exact ⟨[], a :: W, rfl, yHi.nil 0, yLow.cons (Or.inl c)⟩
    · obtain ⟨P, W', e, hp, hw⟩ := ih (fun b hb => h b (List.mem_cons_of_mem _ hb))
      refine ⟨a :: P, W', by rw [e]; rfl, fun b hb => ?_, hw⟩
      rcases List.mem_cons.1 hb with z | z
      · rw [z]; exact ⟨by omega, Nat.zero_le _⟩
      · exact hp b z
/-- the end, at a fault -/
theorem l377z {e : Nat × Nat} {x2 : Int} {v3 : zV} (hd : 3 ≤ d) (hP : RP I J B n (.inr e)) (hF : YF I0 J0 I J base) (hV : YV I base W O T) (hb : base + O.length + W.length ≤ 1100 ∧ W.length ≤ 700) (hZ : yZ t B n base x1 I0 J0 Q e) : Go sc d mt_210 377 [vr 1835, vi x1, vi x2, v3] [] (z_cfg t, I, J) Q := by
  obtain ⟨P, W', eW, hp, hw⟩ := ysplit W hV.2.2.2.2.2.2.2
  subst eW
  have hl : (P ++ W').length = P.length + W'.length := List.length_append
  refine b210_377 (c216 (by omega) (fun d' _ => k216 (g := 0) rfl (by decide) (by omega) P W' O I hV hp hw (by omega) (by omega) (fun I1 U1 V1 => b210_382 ?_)))
  have hl2 : (O ++ P).length = O.length + P.length := List.length_append
  exact c215 (by omega) (fun d' _ => k215 V1 (by omega) (fun I2 U2 V2 => b210_387 (hZ I2 J ((hP.u U1).u U2) ((hF.u U1).u U2))))
theorem l35z {e : Nat × Nat} {v3 : zV} (hd : 3 ≤ d) (hP : RP I J B n (.inr e)) (hF : YF I0 J0 I J base) (hV : YV I base W O T) (hb : base + O.length + W.length ≤ 1100 ∧ W.length ≤ 700) (hZ : yZ t B n base x1 I0 J0 Q e) : Go sc d mt_210 35 [vr 1835, vi x1, vi 1, v3] [] (z_cfg t, I, J) Q := by
  refine b210_35 ⟨⟨by decide, by decide⟩, fun z => absurd z (by decide), fun _ => ?_⟩
  refine c198 (by omega) (fun d' _ => k198 hP (b210_43 ⟨xgi _, fun _ => ?_, fun z => absurd rfl z⟩))
  refine b210_357 (c198 (by omega) (fun d' _ => k198 hP (b210_361 ⟨xgi _, fun _ => ?_, fun z => absurd rfl z⟩)))
  exact l377z hd hP hF hV hb hZ
/-- operand at a fault: from its sign test, from its head -/
theorem oz120 {e : Nat × Nat} {v3 v4 : zV} {y1 y2 y3 : Int} {K : zR → zW → Prop} {d' : Nat} (hd : 5 ≤ d) (hd' : d = d' + 1) (hK : ∀ (I' J' : Nat → Nat → Int), Go sc d mt_210 35 [vr 1835, vi x1, vi 1, v3] [] (z_cfg t, I', J') Q → K (.inl none) (z_cfg t, I', J')) (hP : RP I J B n (.inr e)) (hF : YF I0 J0 I J base) (hV : YV I base W O T) (hb : base + O.length + W.length ≤ 1100 ∧ W.length ≤ 700) (hZ : yZ t B n base x1 I0 J0 Q e) : Go sc d' mt_212 120 [vr 1835, vi y1, vi y2, vi y3, v4] [] (z_cfg t, I, J) K :=
  b212_120 (c214 (by omega) (fun d2 _ => k214f (by omega) hP (b212_124 (hK I J (l35z (by omega) hP hF hV hb hZ)))))
theorem oz75 {e : Nat × Nat} {v3 : zV} {y1 y2 y3 y4 : Int} {K : zR → zW → Prop} {d' : Nat} (hd : 5 ≤ d) (hd' : d = d' + 1) (hK : ∀ (I' J' : Nat → Nat → Int), Go sc d mt_210 35 [vr 1835, vi x1, vi 1, v3] [] (z_cfg t, I', J') Q → K (.inl none) (z_cfg t, I', J')) (hP : RP I J B n (.inr e)) (hF : YF I0 J0 I J base) (hV : YV I base W O T) (hb : base + O.length + W.length ≤ 1100 ∧ W.length ≤ 700) (hZ : yZ t B n base x1 I0 J0 Q e) : Go sc d' mt_212 75 [vr 1835, vi y1, vi y2, vi y3, vi y4] [] (z_cfg t, I, J) K := by
  refine b212_75 (c198 (by omega) (fun d2 _ => k198 hP (b212_79 ⟨xgi _, fun _ => ?_, fun z => absurd rfl z⟩)))
  refine b212_95 (b212_96 ⟨⟨by decide, by decide⟩, fun _ => ?_, fun z => absurd rfl z⟩)
  refine b212_117 (b212_4 ⟨⟨by decide, by decide⟩, fun _ => ?_, fun z => absurd rfl z⟩)
  exact oz120 hd hd' hK hP hF hV hb hZ
theorem o18 {p k : Nat} {b : Bool} {y1 y3 : Int} {K : zR → zW → Prop} (hd : 4 ≤ d) (hP : RP I J B n (.inl p)) (hb : b = true → xW B n p 16 = false) (h : Go sc d mt_212 75 [vr 1835, vi y1, vi ((b.toNat : Nat) : Int), vi y3, vi ((k : Nat) : Int)] [] (z_cfg t, I, J) K) : Go sc d mt_212 18 [vr 1835, vi y1, vi ((b.toNat : Nat) : Int), vi y3, vi ((k : Nat) : Int)] [] (z_cfg t, I, J) K := by
  refine b212_18 (c198 (by omega) (fun d2 _ => k198 hP (b212_22 ⟨xgi _, fun z => absurd z (xgn _), fun _ => ?_⟩)))
  cases b with
  | false => exact ⟨⟨by decide, by decide⟩, fun _ => h, fun z => absurd rfl z⟩
  | true =>
    refine ⟨⟨by decide, by decide⟩, fun z => absurd z (by decide), fun _ => ?_⟩
    refine c194 (by omega) (fun d2 _ => k194 (by omega) hP (fun r hr hw => b212_33 ⟨⟨by omega, by omega⟩, fun c => ?_, fun _ => h⟩))
    have w := (hw ⟨p, rfl⟩ 16 (by decide)).1 c
    have w : xW B n p 16 = true := w
    rw [hb rfl] at w
    cases w
theorem yr1 (hd : 7 ≤ d) (k p : Nat) (hw : xW B n p 16 = true) (hk : k < 6) (hF : yQ sc d t B n base x1 I0 J0 Q true (k + 1) (xE B n p) (3 :: W) O T) : yQ sc d t B n base x1 I0 J0 Q true k p W O T := by
  intro I J v3 y1 y3 K hK hy hyR hP hFF hV hb d' hd'
  have h7 := hP.n7
  have hE := xE_gt h7.1 (xW_k hw)
  refine b212_18 (c198 (by omega) (fun d2 _ => k198 hP (b212_22 ⟨xgi _, fun z => absurd z (xgn _), fun _ => ⟨⟨by decide, by decide⟩, fun z => absurd z (by decide), fun _ => ?_⟩⟩)))
  refine c194 (by omega) (fun d2 _ => k194 (by omega) hP (fun r hr hw2 => b212_33 ⟨⟨by omega, by omega⟩, fun c => ⟨⟨by omega, by omega⟩, fun z => by omega, fun _ => ?_⟩, fun c => absurd ((hw2 ⟨p, rfl⟩ 16 (by decide)).2 hw) c⟩))
  refine b212_50 (c198 (by omega) (fun d2 _ => k198 hP (b212_57 ⟨xgi _, fun z => absurd z (xgn _), fun _ => ?_⟩)))
  have hb1 := hb.1
  have hb2 := hb.2
  refine c213 (by omega) (fun d2 _ => k213 hV (by omega) (by decide) (fun I1 U1 V1 => b212_68 ?_))
  refine c190 (by omega) (fun d2 _ => k190s (by omega) (hP.u U1) (fun I2 J2 f2 P2 => b212_72 ?_))
  rw [show (k : Int) + 1 = ((k + 1 : Nat) : Int) by omega]
  have hl : (3 :: W : List Int).length = W.length + 1 := rfl
  exact hF I2 J2 v3 y1 y3 K hK hy hyR P2 ((hFF.u U1).y f2) (V1.y f2) ⟨by omega, by omega⟩ d' hd'
theorem yr2 (hd : 7 ≤ d) (p : Nat) (hw : xW B n p 16 = true) (hZ : yZ t B n base x1 I0 J0 Q (2, xS B n p)) : yQ sc d t B n base x1 I0 J0 Q true 6 p W O T := by
  intro I J v3 y1 y3 K hK hy hyR hP hFF hV hb d' hd'
  have h7 := hP.n7
  have hb1 := hb.1
  have hb2 := hb.2
  refine b212_18 (c198 (by omega) (fun d2 _ => k198 hP (b212_22 ⟨xgi _, fun z => absurd z (xgn _), fun _ => ⟨⟨by decide, by decide⟩, fun z => absurd z (by decide), fun _ => ?_⟩⟩)))
  refine c194 (by omega) (fun d2 _ => k194 (by omega) hP (fun r hr hw2 => b212_33 ⟨⟨by omega, by omega⟩, fun c => ⟨⟨by decide, by decide⟩, fun _ => ?_, fun z => absurd rfl z⟩, fun c => absurd ((hw2 ⟨p, rfl⟩ 16 (by decide)).2 hw) c⟩))
  refine c199 (by omega) (fun d2 _ => k199 (f := 2) rfl (by decide) hP (fun I1 f1 P1 => ?_))
  have P1 : RP I1 J B n (.inr (2, xS B n p)) := P1
  refine b212_50 (c198 (by omega) (fun d2 _ => k198 P1 (b212_57 ⟨xgi _, fun _ => ?_, fun z => absurd rfl z⟩)))
  refine b212_18 (c198 (by omega) (fun d2 _ => k198 P1 (b212_22 ⟨xgi _, fun _ => ?_, fun z => absurd rfl z⟩)))
  exact oz75 (by omega) hd' hK P1 (hFF.y f1) (hV.y f1) (by omega) hZ
theorem k211 {p : Nat} (hd : 2 ≤ d) (hP : RP I J B n (.inl p)) (hV : YV I base W O T) (h1 : T.length < 6 → ∀ (I' : Nat → Nat → Int), yU I I' base → YV I' base W O (false :: T) → Q (.inl none) (z_cfg t, I', J)) (h2 : ¬ T.length < 6 → ∀ (I' : Nat → Nat → Int), yF I J I' J → RP I' J B n (.inr (if xK B n p = 2 ∨ xK B n p = 1 ∨ xIsG B n 40 (.inl p) = true then 2 else 1, xS B n p)) → Q (.inl none) (z_cfg t, I', J)) : Go sc d mt_211 0 [vr 1835] [] (z_cfg t, I, J) Q := by
  obtain ⟨v1, v2, v3, v4, v5, v6, v7, v8⟩ := hV
  have tk := hP.tk
  refine b211_0 ?_
  rw [v5]
  refine ⟨⟨by omega, by omega⟩, fun c => ⟨⟨by omega, by omega⟩, ?_⟩, fun c => ?_⟩
  · rw [show (T.length : Int) + 1 = ((T.length + 1 : Nat) : Int) by omega, Int.toNat_natCast, show znz 0 = (((false).toNat : Nat) : Int) from znz_b false]
    refine h1 (by omega) _ ⟨fun a h1 _ _ h4 => by rw [zu_ne h4, zu_ne h1], fun k _ _ h3 => by rw [zu_ne (by decide), zu_nk h3], fun i _ => by rw [zu_ne (by decide), zu_ne (by decide)]⟩ ⟨?_, ?_, ?_, ?_, ?_, ?_, ?_, v8⟩
    · rw [zu_ne (by decide), zu_nk (by decide)]; exact v1
    · rw [zu_ne (by decide), zu_ne (by decide)]; exact v2
    · rw [zu_ne (by decide), zu_nk (by decide)]; exact v3
    · rw [zu_ne (by decide), zu_ne (by decide)]; exact v4
    · rw [zu_ne (by decide), zu_same]; rfl
    · intro i hi
      have hl : (false :: T).length = T.length + 1 := rfl
      rw [hl] at hi ⊢
      cases i with
      | zero =>
        rw [Nat.sub_zero, zu_same]
        rfl
      | succ j =>
        rw [zu_nk (by omega), zu_ne (by decide), show T.length + 1 - (j + 1) = T.length - j by omega]
        exact v6 j (by omega)
    · show T.length + 1 ≤ 6
      omega
  · have c6 : ¬ T.length < 6 := by omega
    have end0 : ∀ (v : Nat), (1 ≤ v ∧ v ≤ 2) → (v = if xK B n p = 2 ∨ xK B n p = 1 ∨ xIsG B n 40 (.inl p) = true then 2 else 1) → Go sc d mt_211 61 [vr 1835] [vi (v : Int), vr 1835] (z_cfg t, I, J) Q := fun v hv ev => by
      refine b211_61 (c199 (by omega) (fun d' _ => k199 (f := v) rfl (by omega) hP (fun I1 f1 P1 => b211_64 (h2 c6 I1 f1 ?_))))
      rw [← ev]
      exact P1
    have e23 : I 1835 23 = xK B n p := by
      obtain ⟨_, _, p', _, g4, g5, _⟩ := hP
      subst g5
      exact g4.2.2.1
    have y : (xK B n p = 2 ∨ xK B n p = 1 ∨ xIsG B n 40 (.inl p) = true) → Go sc d mt_211 56 [vr 1835] [vr 1835] (z_cfg t, I, J) Q := fun z => b211_56 (end0 2 (by decide) (by rw [if_pos z]))
    refine ⟨tk.2.1, fun z => y (Or.inl (by omega)), fun c1 => ⟨fun z => y (Or.inr (Or.inl (by omega))), fun c2 => ?_⟩⟩
    refine c200 (by omega) (fun d' _ => k200 (c := 40) rfl (by decide) hP (fun b hb => b211_53 ?_))
    have hb := hb ⟨p, rfl⟩
    cases b with
    | true => exact ⟨⟨by decide, by decide⟩, fun z => absurd z (by decide), fun _ => y (Or.inr (Or.inr hb.symm))⟩
    | false =>
      refine ⟨⟨by decide, by decide⟩, fun _ => end0 1 (by decide) ?_, fun z => absurd rfl z⟩
      rw [if_neg (fun z => by rcases z with z | z | z; omega; omega; rw [← hb] at z; cases z)]
theorem yr3 (hd : 7 ≤ d) (b : Bool) (k p : Nat) (hb0 : b = true → xW B n p 16 = false) (h40 : xIsG B n 40 (.inl p) = true) (hF : T.length < 6 → yQ sc d t B n base x1 I0 J0 Q true 0 (xE B n p) (12 :: W) O (false :: T)) (hZ : ¬ T.length < 6 → yZ t B n base x1 I0 J0 Q (if xK B n (xE B n p) = 2 ∨ xK B n (xE B n p) = 1 ∨ xIsG B n 40 (.inl (xE B n p)) = true then 2 else 1, xS B n (xE B n p))) : yQ sc d t B n base x1 I0 J0 Q b k p W O T := by
  intro I J v3 y1 y3 K hK hy hyR hP hFF hV hb d' hd'
  have h7 := hP.n7
  have hE := xE_gt h7.1 (xIsG_k h40)
  have hb1 := hb.1
  have hb2 := hb.2
  have hl : (12 :: W : List Int).length = W.length + 1 := rfl
  refine o18 (by omega) hP hb0 ?_
  refine b212_75 (c198 (by omega) (fun d2 _ => k198 hP (b212_79 ⟨xgi _, fun z => absurd z (xgn _), fun _ => ?_⟩)))
  refine c200 (by omega) (fun d2 _ => k200 (c := 40) rfl (by decide) hP (fun bb hbb => b212_88 ?_))
  have hbb := hbb ⟨p, rfl⟩
  rw [h40] at hbb
  subst hbb
  refine ⟨⟨by decide, by decide⟩, fun z => absurd z (by decide), fun _ => b212_96 ⟨⟨by decide, by decide⟩, fun z => absurd z (by decide), fun _ => ?_⟩⟩
  refine c213 (by omega) (fun d2 _ => k213 hV (by omega) (by decide) (fun I1 U1 V1 => b212_107 ?_))
  refine c190 (by omega) (fun d2 _ => k190s (by omega) (hP.u U1) (fun I2 J2 f2 P2 => b212_111 ?_))
  have P2 : RP I2 J2 B n (.inl (xE B n p)) := P2
  have F2 := (hFF.u U1).y f2
  refine c211 (by omega) (fun d2 _ => k211 (by omega) P2 (V1.y f2) (fun c I3 U3 V3 => b212_115 (b212_117 (b212_4 ⟨⟨by decide, by decide⟩, fun z => absurd z (by decide), fun _ => ?_⟩))) (fun c I3 f3 P3 => b212_115 (b212_117 (b212_4 ⟨⟨by decide, by decide⟩, fun z => absurd z (by decide), fun _ => ?_⟩))))
  · refine c198 (by omega) (fun d2 _ => k198 (P2.u U3) (b212_12 ⟨xgi _, fun z => absurd z (xgn _), fun _ => ?_⟩))
    exact hF c I3 J2 v3 y1 1 K hK (by decide) ⟨by decide, by decide⟩ (P2.u U3) (F2.u U3) V3 ⟨by omega, by omega⟩ d' hd'
  · refine c198 (by omega) (fun d2 _ => k198 P3 (b212_12 ⟨xgi _, fun _ => ?_, fun z => absurd rfl z⟩))
    exact oz120 (by omega) hd' hK P3 (F2.y f3) ((V1.y f2).y f3) (by omega) (hZ c)
theorem gPart_q {nst : Nat → pX} {p q : Nat} {C : List Int} (h : xIsG B n 40 (.inl p) = false) (e : gPart B n D nst p = .inr (C, q)) : q = xE B n p ∧ ¬ xK B n p = 0 := by
  unfold gPart at e
  by_cases c1 : xK B n p = 2
  · rw [if_pos c1] at e
    by_cases c2 : 3 < xE B n p - xS B n p
    · rw [if_pos c2] at e; cases e
    · rw [if_neg c2] at e; cases e; exact ⟨rfl, by omega⟩
  · rw [if_neg c1] at e
    by_cases c2 : xK B n p = 1 ∧ xE B n p - xS B n p = 1
    · rw [if_pos c2] at e
      cases hm : xNm D (B (xS B n p)) (dT D) 0 with
      | none => rw [hm] at e; cases e
      | some i => rw [hm] at e; cases e; exact ⟨rfl, by omega⟩
    · rw [if_neg c2] at e
      by_cases c3 : xK B n p = 1
      · rw [if_pos c3] at e
        cases hm : gMs B n p with
        | none => rw [hm] at e; cases e
        | some i => rw [hm] at e; cases e; exact ⟨rfl, by omega⟩
      · rw [if_neg c3, if_neg (by rw [h]; decide)] at e
        cases e
theorem yr5 (hd : 7 ≤ d) (hL : RLt I0 D) (b : Bool) (k p : Nat) (nst : Nat → pX) (hb0 : b = true → xW B n p 16 = false) (h40 : xIsG B n 40 (.inl p) = false) (hZ : ∀ e, gPart B n D nst p = .inl e → yZ t B n base x1 I0 J0 Q e) (hH : ∀ C q, gPart B n D nst p = .inr (C, q) → yH sc d t B n base x1 I0 J0 Q q W (O ++ C.flatMap encR) T) : yQ sc d t B n base x1 I0 J0 Q b k p W O T := by
  intro I J v3 y1 y3 K hK hy hyR hP hFF hV hb d' hd'
  have h7 := hP.n7
  have hb1 := hb.1
  have hb2 := hb.2
  refine o18 (by omega) hP hb0 ?_
  refine b212_75 (c198 (by omega) (fun d2 _ => k198 hP (b212_79 ⟨xgi _, fun z => absurd z (xgn _), fun _ => ?_⟩)))
  refine c200 (by omega) (fun d2 _ => k200 (c := 40) rfl (by decide) hP (fun bb hbb => b212_88 ?_))
  have hbb := hbb ⟨p, rfl⟩
  rw [h40] at hbb
  subst hbb
  refine ⟨⟨by decide, by decide⟩, fun _ => ?_, fun z => absurd rfl z⟩
  refine b212_95 (b212_96 ⟨⟨by decide, by decide⟩, fun _ => ?_, fun z => absurd rfl z⟩)
  refine b212_117 (b212_4 ⟨⟨by decide, by decide⟩, fun _ => ?_, fun z => absurd rfl z⟩)
  refine b212_120 (c214 (by omega) (fun d2 _ => k214 (nst := nst) (by omega) h40 hP hFF hV hL (by omega) (fun I1 J1 O1 P1 F1 V1 l1 hO => b212_124 (hK I1 J1 ?_))))
  cases hg : gPart B n D nst p with
  | inl e =>
    rw [hg] at P1
    exact l35z (by omega) P1 F1 V1 (by omega) (hZ e hg)
  | inr r =>
    obtain ⟨C, q⟩ := r
    rw [hg] at P1
    have hq := gPart_q h40 hg
    have hE := xE_gt h7.1 hq.2
    have eO := hO C q hg
    have hlo : (O ++ C.flatMap encR).length ≤ O.length + 2 := by rw [← eO]; exact l1
    rw [eO] at V1
    exact hH C q hg I1 J1 v3 P1 F1 V1 ⟨by omega, by omega⟩
end
