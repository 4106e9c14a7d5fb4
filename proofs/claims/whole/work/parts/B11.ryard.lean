/-! ===== the reference's expressions: its small methods ===== -/
def RLt (I : Nat → Nat → Int) (D : tD) : Prop := I 1835 30 = dT D ∧ dT D ≤ 8 ∧ ∀ i, i < dT D → I 2292 i = dLe D i ∧ dLe D i ≤ 122
def YF (I0 J0 I J : Nat → Nat → Int) (base : Nat) : Prop := (∀ a, ¬ a = 1835 → ¬ a = 2516 → ¬ a = 2484 → ¬ a = 2582 → I a = I0 a) ∧ (∀ k, ¬ k = 19 → ¬ k = 20 → ¬ (22 ≤ k ∧ k ≤ 28) → ¬ k = 34 → ¬ k = 35 → ¬ k = 36 → I 1835 k = I0 1835 k) ∧ (∀ i, i < base → I 2484 i = I0 2484 i) ∧ ∀ a, ¬ a = 1835 → J a = J0 a
def YV (I : Nat → Nat → Int) (base : Nat) (W O : List Int) (T : List Bool) : Prop := I 1835 35 = (W.length : Int) ∧ arr (I 2516) W ∧ I 1835 34 = ((base + O.length : Nat) : Int) ∧ rowAt (I 2484) base O ∧ I 1835 36 = (T.length : Int) ∧ (∀ i, i < T.length → I 2582 (T.length - i) = (((T.getD i false).toNat : Nat) : Int)) ∧ T.length ≤ 6 ∧ ∀ a, a ∈ W → 3 ≤ a ∧ a ≤ 12
def yU (I I' : Nat → Nat → Int) (base : Nat) : Prop := (∀ a, ¬ a = 1835 → ¬ a = 2516 → ¬ a = 2484 → ¬ a = 2582 → I' a = I a) ∧ (∀ k, ¬ k = 34 → ¬ k = 35 → ¬ k = 36 → I' 1835 k = I 1835 k) ∧ ∀ i, i < base → I' 2484 i = I 2484 i
theorem rowAt_snoc {f : Nat → Int} {base : Nat} {O : List Int} {x : Int} (h : rowAt f base O) : rowAt (z_row f (base + O.length) x) base (O ++ [x]) := by
  intro i y hi
  have e : z_row f (base + O.length) x (base + i) = if base + i = base + O.length then x else f (base + i) := rfl
  rw [e]
  by_cases c : i < O.length
  · rw [if_neg (by omega)]
    rw [List.getElem?_append_left c] at hi
    exact h i y hi
  · rw [List.getElem?_append_right (by omega)] at hi
    have hl := (List.getElem?_eq_some_iff.mp hi).1
    have hl : i - O.length < 1 := hl
    have z : i = O.length := by omega
    rw [z, Nat.sub_self] at hi
    have hi : some x = some y := hi
    cases hi
    rw [if_pos (by omega)]
section
variable {sc : mS} {d : Nat} {t : zT} {I J I0 J0 : Nat → Nat → Int} {Q : zR → zW → Prop} {B : Nat → Nat} {n : Nat} {D : tD} {base : Nat} {W O : List Int} {T : List Bool}
theorem yU.rf (I : Nat → Nat → Int) (base : Nat) : yU I I base := ⟨fun _ _ _ _ _ => rfl, fun _ _ _ _ => rfl, fun _ _ => rfl⟩
theorem yU.tr {I1 I2 : Nat → Nat → Int} (h : yU I I1 base) (h' : yU I1 I2 base) : yU I I2 base := ⟨fun a h1 h2 h3 h4 => (h'.1 a h1 h2 h3 h4).trans (h.1 a h1 h2 h3 h4), fun k h1 h2 h3 => (h'.2.1 k h1 h2 h3).trans (h.2.1 k h1 h2 h3), fun i hi => (h'.2.2 i hi).trans (h.2.2 i hi)⟩
theorem RP.u {I' : Nat → Nat → Int} {s : xT} (h : RP I J B n s) (f : yU I I' base) : RP I' J B n s := h.fr (fun k hk => f.2.1 k (by omega) (by omega) (by omega)) rfl (f.1 2196 (by decide) (by decide) (by decide) (by decide))
theorem YF.rf (I J : Nat → Nat → Int) (base : Nat) : YF I J I J base := ⟨fun _ _ _ _ _ => rfl, fun _ _ _ _ _ _ _ => rfl, fun _ _ => rfl, fun _ _ => rfl⟩
theorem YF.u {I' : Nat → Nat → Int} (h : YF I0 J0 I J base) (f : yU I I' base) : YF I0 J0 I' J base := ⟨fun a h1 h2 h3 h4 => (f.1 a h1 h2 h3 h4).trans (h.1 a h1 h2 h3 h4), fun k h1 h2 h3 h4 h5 h6 => (f.2.1 k h4 h5 h6).trans (h.2.1 k h1 h2 h3 h4 h5 h6), fun i hi => (f.2.2 i hi).trans (h.2.2.1 i hi), h.2.2.2⟩
theorem YF.y {I' J' : Nat → Nat → Int} (h : YF I0 J0 I J base) (f : yF I J I' J') : YF I0 J0 I' J' base := ⟨fun a h1 h2 h3 h4 => (by rw [f.1 a h1]; exact h.1 a h1 h2 h3 h4), fun k h1 h2 h3 h4 h5 h6 => (f.2.1 k h1 h2 h3).trans (h.2.1 k h1 h2 h3 h4 h5 h6), fun i hi => (by rw [f.1 2484 (by decide)]; exact h.2.2.1 i hi), fun a h1 => (f.2.2 a h1).trans (h.2.2.2 a h1)⟩
theorem YV.y {I' J' : Nat → Nat → Int} (h : YV I base W O T) (f : yF I J I' J') : YV I' base W O T := by
  unfold YV
  rw [f.2.1 35 (by decide) (by decide) (by decide), f.2.1 34 (by decide) (by decide) (by decide), f.2.1 36 (by decide) (by decide) (by decide), f.1 2516 (by decide), f.1 2484 (by decide), f.1 2582 (by decide)]
  exact h
theorem RLt.f (h : RLt I0 D) (f : YF I0 J0 I J base) : RLt I D := by
  unfold RLt
  rw [f.2.1 30 (by decide) (by decide) (by decide) (by decide) (by decide) (by decide), f.1 2292 (by decide) (by decide) (by decide) (by decide)]
  exact h
theorem k203 {x1 : Int} {c : Nat} (e1 : x1 = c) (hc : c < 256) (hL : RLt I D) (hq : Q (.inl (some (vi (match xNm D c (dT D) 0 with | none => -1 | some i => ((i : Nat) : Int))))) (z_cfg t, I, J)) : Go sc d mt_203 0 [vr 1835, vi x1, vn] [] (z_cfg t, I, J) Q := by
  subst e1
  have h8 := hL.2.1
  have loop : ∀ (m i : Nat), i + m = dT D → Q (.inl (some (vi (match xNm D c m i with | none => -1 | some i => ((i : Nat) : Int))))) (z_cfg t, I, J) → Go sc d mt_203 2 [vr 1835, vi (c : Int), vi (i : Int)] [] (z_cfg t, I, J) Q := by
    intro m
    induction m with
    | zero =>
      intro i hi hq
      refine b203_2 ?_
      rw [hL.1]
      exact ⟨⟨by omega, by omega⟩, ⟨by omega, by omega⟩, fun z => by omega, fun _ => hq⟩
    | succ m ih =>
      intro i hi hq
      have hl := hL.2.2 i (by omega)
      refine b203_2 ?_
      rw [hL.1, Int.toNat_natCast, hl.1]
      refine ⟨⟨by omega, by omega⟩, ⟨by omega, by omega⟩, fun _ => ⟨⟨by omega, by omega⟩, ⟨by omega, by omega⟩, ⟨by omega, by omega⟩, fun c2 => ?_, fun c2 => ?_⟩, fun z => by omega⟩
      · have e : xNm D c (m + 1) i = some i := by unfold xNm; rw [if_pos (by omega)]
        rw [e] at hq
        exact hq
      · have e : xNm D c (m + 1) i = xNm D c m (i + 1) := by
          show (if dLe D i = c then some i else xNm D c m (i + 1)) = _
          rw [if_neg (by omega)]
        rw [e] at hq
        rw [show (i : Int) + 1 = ((i + 1 : Nat) : Int) by omega]
        exact ih (i + 1) (by omega) hq
  exact b203_0 (loop (dT D) 0 (Nat.zero_add _) hq)
theorem xNm_lt {c : Nat} : ∀ (m a i : Nat), xNm D c m a = some i → i < a + m := by
  intro m
  induction m with
  | zero => intro a i z; cases z
  | succ m ih =>
    intro a i z
    unfold xNm at z
    split at z
    · cases z; omega
    · have := ih (a + 1) i z; omega
theorem k213 {x : Int} (hV : YV I base W O T) (hw : W.length < 720) (hx : 3 ≤ x ∧ x ≤ 12) (hq : ∀ (I' : Nat → Nat → Int), yU I I' base → YV I' base (x :: W) O T → Q (.inl none) (z_cfg t, I', J)) : Go sc d mt_213 0 [vr 1835, vi x] [] (z_cfg t, I, J) Q := by
  obtain ⟨v1, v2, v3, v4, v5, v6, v7, v8⟩ := hV
  refine b213_0 ?_
  rw [v1, Int.toNat_natCast]
  refine ⟨⟨by omega, by omega⟩, hq _ ⟨fun a h1 h2 _ _ => by rw [zu_ne h1, zu_ne h2], fun k _ h2 _ => by rw [zu_nk h2, zu_ne (by decide)], fun i _ => by rw [zu_ne (by decide), zu_ne (by decide)]⟩ ⟨?_, ?_, ?_, ?_, ?_, ?_, v7, ?_⟩⟩
  · rw [zu_same]
    show (W.length : Int) + 1 = ((W.length + 1 : Nat) : Int)
    omega
  · rw [zu_ne (by decide), zu_row]
    exact arr_push v2
  · rw [zu_nk (by decide), zu_ne (by decide)]
    exact v3
  · rw [zu_ne (by decide), zu_ne (by decide)]
    exact v4
  · rw [zu_nk (by decide), zu_ne (by decide)]
    exact v5
  · rw [zu_ne (by decide), zu_ne (by decide)]
    exact v6
  · intro a ha
    rcases List.mem_cons.1 ha with z | z
    · rw [z]; exact hx
    · exact v8 a z
theorem k215 {x : Int} (hV : YV I base W O T) (hb : base + O.length < 1200) (hq : ∀ (I' : Nat → Nat → Int), yU I I' base → YV I' base W (O ++ [x]) T → Q (.inl none) (z_cfg t, I', J)) : Go sc d mt_215 0 [vr 1835, vi x] [] (z_cfg t, I, J) Q := by
  obtain ⟨v1, v2, v3, v4, v5, v6, v7, v8⟩ := hV
  refine b215_0 ?_
  rw [v3, Int.toNat_natCast]
  refine ⟨⟨by omega, by omega⟩, hq _ ⟨fun a h1 _ h3 _ => by rw [zu_ne h1, zu_ne h3], fun k h2 _ _ => by rw [zu_nk h2, zu_ne (by decide)], fun i hi => by rw [zu_ne (by decide), zu_nk (by omega)]⟩ ⟨?_, ?_, ?_, ?_, ?_, ?_, v7, v8⟩⟩
  · rw [zu_nk (by decide), zu_ne (by decide)]
    exact v1
  · rw [zu_ne (by decide), zu_ne (by decide)]
    exact v2
  · rw [zu_same, List.length_append]
    show ((base + O.length : Nat) : Int) + 1 = ((base + (O.length + 1) : Nat) : Int)
    omega
  · rw [zu_ne (by decide), zu_row]
    exact rowAt_snoc v4
  · rw [zu_nk (by decide), zu_ne (by decide)]
    exact v5
  · rw [zu_ne (by decide), zu_ne (by decide)]
    exact v6
theorem k217 {x0 a : Int} (e0 : x0 = a) (ha : inR a) (hq : Q (.inl (some (vi (yst a : Int)))) (z_cfg t, I, J)) : Go sc d mt_217 0 [vi x0] [] (z_cfg t, I, J) Q := by
  subst e0
  unfold yst at hq
  refine b217_0 ⟨ha, fun c => ?_, fun c => ⟨fun c1 => ?_, fun c1 => ⟨fun c2 => ?_, fun c2 => ⟨fun c3 => ?_, fun c3 => ⟨fun c4 => ?_, fun c4 => ⟨fun c5 => ?_, fun c5 => ⟨fun c6 => ?_, fun c6 => ⟨fun c7 => ?_, fun c7 => ?_⟩⟩⟩⟩⟩⟩⟩⟩
  · rw [if_pos c] at hq; exact hq
  · rw [if_neg c, if_pos c1] at hq; exact hq
  · rw [if_neg c, if_neg c1, if_pos c2] at hq; exact hq
  · rw [if_neg c, if_neg c1, if_neg c2, if_pos c3] at hq; exact hq
  · rw [if_neg c, if_neg c1, if_neg c2, if_neg c3, if_pos c4] at hq; exact hq
  · rw [if_neg c, if_neg c1, if_neg c2, if_neg c3, if_neg c4, if_pos c5] at hq; exact hq
  · rw [if_neg c, if_neg c1, if_neg c2, if_neg c3, if_neg c4, if_neg c5, if_pos c6] at hq; exact hq
  · rw [if_neg c, if_neg c1, if_neg c2, if_neg c3, if_neg c4, if_neg c5, if_neg c6, if_pos c7] at hq; exact hq
  · rw [if_neg c, if_neg c1, if_neg c2, if_neg c3, if_neg c4, if_neg c5, if_neg c6, if_neg c7] at hq; exact hq
theorem k216 {x1 : Int} {g : Nat} (e1 : x1 = g) (hg : g ≤ 6) (hd : 1 ≤ d) : ∀ (P W O : List Int) (I : Nat → Nat → Int), YV I base (P ++ W) O T → yHi g P → yLow g W → base + O.length + P.length ≤ 1200 → P.length + W.length ≤ 720 → (∀ (I' : Nat → Nat → Int), yU I I' base → YV I' base W (O ++ P) T → Q (.inl none) (z_cfg t, I', J)) → Go sc d mt_216 0 [vr 1835, vi x1] [] (z_cfg t, I, J) Q := by
  intro P
  induction P with
  | nil =>
    intro W O I hV hP hW hb hl hq
    have hV : YV I base W O T := hV
    rw [List.append_nil] at hq
    have done := hq I (yU.rf I base) hV
    cases W with
    | nil =>
      have v1 : I 1835 35 = 0 := hV.1
      exact b216_0 ⟨by rw [v1]; exact ⟨by decide, by decide⟩, fun z => by omega, fun _ => done⟩
    | cons a W =>
      have v1 : I 1835 35 = ((W.length + 1 : Nat) : Int) := hV.1
      have v2 := arr_top hV.2.1
      have va := hV.2.2.2.2.2.2.2 a List.mem_cons_self
      have hl : 0 + (W.length + 1) ≤ 720 := hl
      refine b216_0 ?_
      rw [v1, show ((W.length + 1 : Nat) : Int) - 1 = ((W.length : Nat) : Int) by omega, Int.toNat_natCast, v2]
      refine ⟨⟨by omega, by omega⟩, fun _ => ⟨⟨by omega, by omega⟩, ⟨by omega, by omega⟩, fun _ => done, fun c => ?_⟩, fun z => by omega⟩
      refine c217 (by omega) (fun d' _ => k217 rfl ⟨by omega, by omega⟩ (b216_37 ?_))
      have hlow := hW a W rfl
      have hs := yst_le a
      refine ⟨⟨by omega, by omega⟩, ⟨by omega, by omega⟩, fun _ => done, fun z => ?_⟩
      rcases hlow with w | w
      · exact absurd w c
      · exact absurd (by omega) z
  | cons a P ih =>
    intro W O I hV hP hW hb hl hq
    have hV : YV I base (a :: (P ++ W)) O T := hV
    have v1 : I 1835 35 = (((P ++ W).length + 1 : Nat) : Int) := hV.1
    have v2 := arr_top hV.2.1
    have ha := hP a List.mem_cons_self
    have hl : P.length + 1 + W.length ≤ 720 := hl
    have hb : base + O.length + (P.length + 1) ≤ 1200 := hb
    have hlen : (P ++ W).length = P.length + W.length := List.length_append
    refine b216_0 ?_
    rw [v1, show (((P ++ W).length + 1 : Nat) : Int) - 1 = (((P ++ W).length : Nat) : Int) by omega, Int.toNat_natCast, v2]
    refine ⟨⟨by omega, by omega⟩, fun _ => ⟨⟨by omega, by omega⟩, ⟨by omega, by omega⟩, fun c => by omega, fun c => ?_⟩, fun z => by omega⟩
    refine c217 (by omega) (fun d' _ => k217 rfl ⟨by omega, by omega⟩ (b216_37 ?_))
    have hs := yst_le a
    rw [v1, show (((P ++ W).length + 1 : Nat) : Int) - 1 = (((P ++ W).length : Nat) : Int) by omega, Int.toNat_natCast, v2]
    refine ⟨⟨by omega, by omega⟩, ⟨by omega, by omega⟩, fun z => by omega, fun _ => ⟨⟨by omega, by omega⟩, ?_⟩⟩
    obtain ⟨w1, w2, w3, w4, w5, w6, w7, w8⟩ := hV
    have V1 : YV (z_u I 1835 35 (((P ++ W).length : Nat) : Int)) base (P ++ W) O T := by
      refine ⟨by rw [zu_same], ?_, ?_, ?_, ?_, ?_, w7, fun b hb => w8 b (List.mem_cons_of_mem _ hb)⟩
      · rw [zu_ne (by decide)]
        exact arr_tl w2
      · rw [zu_nk (by decide)]; exact w3
      · rw [zu_ne (by decide)]; exact w4
      · rw [zu_nk (by decide)]; exact w5
      · rw [zu_ne (by decide)]; exact w6
    have U1 : yU I (z_u I 1835 35 (((P ++ W).length : Nat) : Int)) base := ⟨fun b h1 _ _ _ => zu_ne h1, fun k _ h2 _ => zu_nk h2, fun i _ => by rw [zu_ne (by decide)]⟩
    refine c215 (by omega) (fun d' _ => k215 V1 (by omega) (fun I2 U2 V2 => b216_64 ?_))
    refine ih W (O ++ [a]) I2 V2 (fun b hb => hP b (List.mem_cons_of_mem _ hb)) hW ?_ (by omega) (fun I3 U3 V3 => hq I3 ((U1.tr U2).tr U3) ?_)
    · rw [List.length_append]
      show base + (O.length + 1) + P.length ≤ 1200
      omega
    · rw [List.append_assoc] at V3
      exact V3
theorem gMs_r {p : Nat} {r : Int} (h : ∀ k : Nat, k < 21 → (r = k ↔ xW B n p k = true)) : gMs B n p = if r = 17 then some 1100 else if r = 7 then some 1101 else if r = 18 then some 1102 else if r = 19 then some 1103 else if r = 5 then some 1104 else if r = 20 then some 1105 else none := by
  have e : ∀ (k : Nat) (x y : Option Int), k < 21 → (if xW B n p k = true then x else y) = if r = (k : Int) then x else y := fun k x y hk => by
    by_cases c : r = (k : Int)
    · rw [if_pos c, if_pos ((h k hk).1 c)]
    · rw [if_neg c, if_neg (fun z => c ((h k hk).2 z))]
  unfold gMs
  rw [e 17 _ _ (by decide), e 7 _ _ (by decide), e 18 _ _ (by decide), e 19 _ _ (by decide), e 5 _ _ (by decide), e 20 _ _ (by decide)]
  rfl
theorem k214f {e : Nat × Nat} (hd : 1 ≤ d) (hP : RP I J B n (.inr e)) (hq : Q (.inl none) (z_cfg t, I, J)) : Go sc d mt_214 0 [vr 1835, vn, vn] [] (z_cfg t, I, J) Q := by
  refine b214_0 (c198 hd (fun d' _ => k198 hP (b214_4 ?_)))
  exact ⟨xgi _, fun _ => hq, fun z => absurd rfl z⟩
theorem k214 {p : Nat} {nst : Nat → pX} (hd : 4 ≤ d) (h40 : xIsG B n 40 (.inl p) = false) (hP : RP I J B n (.inl p)) (hF : YF I0 J0 I J base) (hV : YV I base W O T) (hL : RLt I0 D) (hb : base + O.length + 2 ≤ 1200) (hq : ∀ (I' J' : Nat → Nat → Int) (O' : List Int), RP I' J' B n (pvR (gPart B n D nst p)) → YF I0 J0 I' J' base → YV I' base W O' T → O'.length ≤ O.length + 2 → (∀ C q, gPart B n D nst p = .inr (C, q) → O' = O ++ C.flatMap encR) → Q (.inl none) (z_cfg t, I', J')) : Go sc d mt_214 0 [vr 1835, vn, vn] [] (z_cfg t, I, J) Q := by
  have hk := hP.tk
  have l1 : (O ++ [(1 : Int)]).length = O.length + 1 := List.length_append
  have ll : ∀ x y : Int, (O ++ [x] ++ [y]).length = O.length + 2 := fun x y => by rw [List.length_append, List.length_append]; rfl
  have lx : ∀ x : Int, (O ++ [x]).length = O.length + 1 := fun x => List.length_append
  refine b214_0 (c198 (by omega) (fun d' _ => k198 hP (b214_4 ⟨xgi _, fun z => absurd z (xgn _), fun _ => ?_⟩)))
  have hP0 := hP
  obtain ⟨h1, h2, p', h3, h4, h5, h6, h7⟩ := hP
  subst h5
  have a := xS_r (B := B) h3
  have b := xE_r (B := B) h3
  have e23 := h4.2.2.1
  have e25 := h4.2.2.2.2.1
  have e26 := h4.2.2.2.2.2.1
  have e27 := h4.2.2.2.2.2.2.1
  have bad : ∀ (e : Nat × Nat) (I1 J1 : Nat → Nat → Int) (O1 : List Int) (v1 v2 : zV), gPart B n D nst p = .inl e → RP I1 J1 B n (.inr e) → YF I0 J0 I1 J1 base → YV I1 base W O1 T → O1.length ≤ O.length + 2 → Go sc d mt_214 181 [vr 1835, v1, v2] [] (z_cfg t, I1, J1) Q := fun e I1 J1 O1 v1 v2 he P1 F1 V1 l1 => by
    refine b214_181 (c198 (by omega) (fun d' _ => k198 P1 (b214_185 ⟨xgi _, fun _ => ?_, fun z => absurd rfl z⟩)))
    exact hq I1 J1 O1 (by rw [he]; exact P1) F1 V1 l1 (fun C q z => by rw [he] at z; cases z)
  have good : ∀ (c : Int) (I1 J1 : Nat → Nat → Int) (O1 : List Int) (v1 v2 : zV), gPart B n D nst p = .inr ([c], xE B n p) → RP I1 J1 B n (.inl p) → YF I0 J0 I1 J1 base → YV I1 base W O1 T → O1.length ≤ O.length + 2 → O1 = O ++ encR c → Go sc d mt_214 181 [vr 1835, v1, v2] [] (z_cfg t, I1, J1) Q := fun c I1 J1 O1 v1 v2 he P1 F1 V1 l1 eO => by
    refine b214_181 (c198 (by omega) (fun d' _ => k198 P1 (b214_185 ⟨xgi _, fun z => absurd z (xgn _), fun _ => ?_⟩)))
    refine c190 (by omega) (fun d' _ => k190s (by omega) P1 (fun I2 J2 f2 P2 => b214_192 ?_))
    refine hq I2 J2 O1 (by rw [he]; exact P2) (F1.y f2) (V1.y f2) l1 (fun C q z => ?_)
    rw [he] at z
    cases z
    rw [eO]
    show _ = O ++ (encR c ++ [])
    rw [List.append_nil]
  refine ⟨hk.2.1, fun c1 => ⟨⟨by omega, by omega⟩, fun c2 => ?_, fun c2 => ?_⟩, fun c1 => ⟨fun c2 => ?_, fun c2 => ?_⟩⟩
  · have k2 : xK B n p = 2 := by omega
    have eg : gPart B n D nst p = .inl (2, xS B n p) := by unfold gPart; rw [if_pos k2, if_pos (by omega)]
    refine c199 (by omega) (fun d' _ => k199 (f := 2) rfl (by decide) hP0 (fun I1 f1 P1 => b214_29 ?_))
    refine c215 (by omega) (fun d' _ => k215 (hV.y f1) (by omega) (fun I2 U2 V2 => b214_34 ?_))
    refine c215 (by omega) (fun d' _ => k215 V2 (by rw [lx]; omega) (fun I3 U3 V3 => b214_42 ?_))
    exact bad _ I3 J _ _ _ eg ((P1.u U2).u U3) (((hF.y f1).u U2).u U3) V3 (by rw [ll]; omega)
  · have k2 : xK B n p = 2 := by omega
    have hv := xV_le k2
    have eg : gPart B n D nst p = .inr ([(xV B n p : Int)], xE B n p) := by unfold gPart; rw [if_pos k2, if_neg (by omega)]
    refine b214_29 (c215 (by omega) (fun d' _ => k215 hV (by omega) (fun I2 U2 V2 => b214_34 ?_)))
    rw [if_pos k2] at e26
    have e26' : I2 1835 26 = (xV B n p : Int) := (U2.2.1 26 (by decide) (by decide) (by decide)).trans e26
    rw [e26']
    refine c215 (by omega) (fun d' _ => k215 V2 (by rw [lx]; omega) (fun I3 U3 V3 => b214_42 ?_))
    refine good _ I3 J _ _ _ eg ((hP0.u U2).u U3) ((hF.u U2).u U3) V3 (by rw [ll]; omega) ?_
    have ee : encR (xV B n p : Int) = [1, (xV B n p : Int)] := by unfold encR; rw [if_pos (by omega)]
    rw [ee, List.append_assoc]
    rfl
  · have k1 : xK B n p = 1 := by omega
    have hlt := xK_lt (by rw [k1]; decide : ¬ xK B n p = 0)
    have e27' : I 1835 27 = (B (xS B n p) : Int) := by
      rw [e27]
      unfold bA
      rw [if_pos hlt]
    have hbyte := (h1 (xS B n p) (by omega)).2
    refine c194 (by omega) (fun d' _ => k194 (by omega) hP0 (fun r hr hw => b214_57 ?_))
    have hw := hw ⟨p, rfl⟩
    have hms := gMs_r (fun k hk => hw k hk)
    -- what happens from 141 on, at a fault
    have flt : ∀ (e : Nat × Nat) (I1 : Nat → Nat → Int) (x1 x2 : Int), gPart B n D nst p = .inl e → RP I1 J B n (.inr e) → YF I0 J0 I1 J base → YV I1 base W O T → Go sc d mt_214 141 [vr 1835, vi x1, vi x2] [] (z_cfg t, I1, J) Q := fun e I1 x1 x2 he P1 F1 V1 => by
      refine b214_141 (c215 (by omega) (fun d' _ => k215 V1 (by omega) (fun I2 U2 V2 => b214_146 ?_)))
      have P2 := P1.u U2
      have t2 := P2.tk
      have fin : ∀ v : Int, Go sc d mt_214 170 [vr 1835, vi x1, vi x2] [vi v, vr 1835] (z_cfg t, I2, J) Q := fun v => by
        refine b214_170 (c215 (by omega) (fun d' _ => k215 V2 (by rw [lx]; omega) (fun I3 U3 V3 => b214_173 ?_)))
        exact bad e I3 J _ _ _ he (P2.u U3) ((F1.u U2).u U3) V3 (by rw [ll]; omega)
      refine ⟨⟨by omega, by omega⟩, fun _ => ?_, fun _ => fin _⟩
      obtain ⟨v, hv⟩ : ∃ v : Nat, I2 1835 27 = (v : Int) := ⟨(I2 1835 27).toNat, by omega⟩
      rw [hv]
      exact c203 (by omega) (fun d' _ => k203 rfl (by omega) (hL.f (F1.u U2)) (b214_163 (fin _)))
    by_cases cl : xE B n p - xS B n p = 1
    · -- a name
      have eg : gPart B n D nst p = (match xNm D (B (xS B n p)) (dT D) 0 with | none => .inl (4, xS B n p) | some i => .inr ([((1000 + i : Nat) : Int)], xE B n p)) := by
        unfold gPart
        rw [if_neg (by omega), if_pos ⟨k1, cl⟩]
        first | done | rfl
      have at116 : ∀ x1 x2 : Int, Go sc d mt_214 116 [vr 1835, vi x1, vi x2] [] (z_cfg t, I, J) Q := fun x1 x2 => by
        refine b214_116 ?_
        rw [e25, e27']
        refine ⟨⟨by omega, by omega⟩, fun _ => ?_, fun z => absurd (by omega) z⟩
        refine c203 (by omega) (fun d' _ => k203 rfl hbyte (hL.f hF) (b214_132 ?_))
        cases hm : xNm D (B (xS B n p)) (dT D) 0 with
        | none =>
          rw [hm] at eg
          refine ⟨(⟨by decide, by decide⟩ : inR (-1 : Int)), fun _ => ?_, fun z => absurd rfl z⟩
          exact c199 (by omega) (fun d' _ => k199 (f := 4) rfl (by decide) hP0 (fun I1 f1 P1 => flt _ I1 x1 x2 eg P1 (hF.y f1) (hV.y f1)))
        | some i =>
          rw [hm] at eg
          have hi := xNm_lt _ _ _ hm
          have h8 := hL.2.1
          show (inR ((i : Nat) : Int)) ∧ ((((i : Nat) : Int) = (-1 : Int) → _) ∧ (¬ ((i : Nat) : Int) = (-1 : Int) → _))
          refine ⟨⟨by omega, by omega⟩, fun z => by omega, fun _ => ?_⟩
          refine b214_141 (c215 (by omega) (fun d' _ => k215 hV (by omega) (fun I2 U2 V2 => b214_146 ?_)))
          have P2 := hP0.u U2
          rw [U2.2.1 25 (by decide) (by decide) (by decide), U2.2.1 27 (by decide) (by decide) (by decide), e25, e27']
          refine ⟨⟨by omega, by omega⟩, fun _ => ?_, fun z => absurd (by omega) z⟩
          refine c203 (by omega) (fun d' _ => k203 rfl hbyte (hL.f (hF.u U2)) (b214_163 ?_))
          rw [hm]
          refine b214_170 (c215 (by omega) (fun d' _ => k215 V2 (by rw [lx]; omega) (fun I3 U3 V3 => b214_173 ?_)))
          refine good _ I3 J _ _ _ eg (P2.u U3) ((hF.u U2).u U3) V3 (by rw [ll]; omega) ?_
          have ee : encR ((1000 + i : Nat) : Int) = [2, ((i : Nat) : Int)] := by
            unfold encR
            rw [if_neg (by omega), if_pos (by omega), show ((1000 + i : Nat) : Int) - 1000 = ((i : Nat) : Int) by omega]
          rw [ee, List.append_assoc]
          rfl
      have at98 : ∀ x1 s0 : Int, Go sc d mt_214 98 [vr 1835, vi x1, vn] [vi s0] (z_cfg t, I, J) Q := fun x1 s0 => by
        refine b214_98 ?_
        rw [e25]
        exact ⟨⟨by omega, by omega⟩, fun z => absurd z (by omega), fun _ => at116 x1 s0⟩
      exact ⟨⟨by omega, by omega⟩, fun _ => b214_93 (at98 _ _), fun _ => ⟨fun _ => b214_93 (at98 _ _), fun _ => ⟨fun _ => b214_93 (at98 _ _), fun _ => ⟨fun _ => b214_93 (at98 _ _), fun _ => ⟨fun _ => b214_93 (at98 _ _), fun _ => ⟨fun _ => b214_93 (at98 _ _), fun _ => at98 _ _⟩⟩⟩⟩⟩⟩
    · -- a word
      have e1 := b.2.2 hlt
      have eg : gPart B n D nst p = (match gMs B n p with | none => .inl (3, xS B n p) | some c => .inr ([c], xE B n p)) := by
        unfold gPart
        rw [if_neg (by omega), if_neg (by omega), if_pos k1]
        first | done | rfl
      have yes : ∀ c : Int, gMs B n p = some c → encR c = [2, 100 + r] → Go sc d mt_214 93 [vr 1835, vi r, vn] [] (z_cfg t, I, J) Q := fun c hc ee => by
        rw [hc] at eg
        refine b214_93 (b214_98 ?_)
        rw [e25]
        refine ⟨⟨by omega, by omega⟩, fun _ => ⟨⟨by decide, by decide⟩, fun z => absurd z (by decide), fun _ => ?_⟩, fun z => absurd (by omega) z⟩
        refine b214_116 ?_
        rw [e25]
        refine ⟨⟨by omega, by omega⟩, fun z => absurd z (by omega), fun _ => ?_⟩
        refine b214_141 (c215 (by omega) (fun d' _ => k215 hV (by omega) (fun I2 U2 V2 => b214_146 ?_)))
        rw [U2.2.1 25 (by decide) (by decide) (by decide), e25]
        refine ⟨⟨by omega, by omega⟩, fun z => absurd z (by omega), fun _ => ?_⟩
        refine b214_170 (c215 (by omega) (fun d' _ => k215 V2 (by rw [lx]; omega) (fun I3 U3 V3 => b214_173 ?_)))
        refine good c I3 J _ _ _ eg ((hP0.u U2).u U3) ((hF.u U2).u U3) V3 (by rw [ll]; omega) ?_
        rw [ee, List.append_assoc]
        rfl
      refine ⟨⟨by omega, by omega⟩, fun z => ?_, fun z1 => ⟨fun z => ?_, fun z2 => ⟨fun z => ?_, fun z3 => ⟨fun z => ?_, fun z4 => ⟨fun z => ?_, fun z5 => ⟨fun z => ?_, fun z6 => ?_⟩⟩⟩⟩⟩⟩
      · rw [if_pos z] at hms
        exact yes _ hms (by rw [z]; decide)
      · rw [if_neg z1, if_pos z] at hms
        exact yes _ hms (by rw [z]; decide)
      · rw [if_neg z1, if_neg z2, if_pos z] at hms
        exact yes _ hms (by rw [z]; decide)
      · rw [if_neg z1, if_neg z2, if_neg z3, if_pos z] at hms
        exact yes _ hms (by rw [z]; decide)
      · rw [if_neg z1, if_neg z2, if_neg z3, if_neg z4, if_pos z] at hms
        exact yes _ hms (by rw [z]; decide)
      · rw [if_neg z1, if_neg z2, if_neg z3, if_neg z4, if_neg z5, if_pos z] at hms
        exact yes _ hms (by rw [z]; decide)
      · rw [if_neg z1, if_neg z2, if_neg z3, if_neg z4, if_neg z5, if_neg z6] at hms
        rw [hms] at eg
        refine b214_98 ?_
        rw [e25]
        refine ⟨⟨by omega, by omega⟩, fun _ => ⟨⟨by decide, by decide⟩, fun _ => ?_, fun z => absurd rfl z⟩, fun z => absurd (by omega) z⟩
        refine c199 (by omega) (fun d' _ => k199 (f := 3) rfl (by decide) hP0 (fun I1 f1 P1 => ?_))
        have t1 := P1.tk
        have F1 := hF.y f1
        have fl := fun x1 x2 => flt (3, xS B n p) I1 x1 x2 eg P1 F1 (hV.y f1)
        refine b214_116 ⟨⟨by omega, by omega⟩, fun _ => ?_, fun _ => fl _ _⟩
        obtain ⟨v, hv⟩ : ∃ v : Nat, I1 1835 27 = (v : Int) := ⟨(I1 1835 27).toNat, by omega⟩
        rw [hv]
        refine c203 (by omega) (fun d' _ => k203 rfl (by omega) (hL.f F1) (b214_132 ?_))
        cases hm : xNm D v (dT D) 0 with
        | none =>
          refine ⟨(⟨by decide, by decide⟩ : inR (-1 : Int)), fun _ => ?_, fun z => absurd rfl z⟩
          exact c199 (by omega) (fun d' _ => k199 (f := 4) rfl (by decide) P1 (fun I2 f2 P2 => flt _ I2 _ _ eg P2 (F1.y f2) ((hV.y f1).y f2)))
        | some i =>
          have hi := xNm_lt _ _ _ hm
          have h8 := hL.2.1
          show (inR ((i : Nat) : Int)) ∧ ((((i : Nat) : Int) = (-1 : Int) → _) ∧ (¬ ((i : Nat) : Int) = (-1 : Int) → _))
          exact ⟨⟨by omega, by omega⟩, fun z => by omega, fun _ => fl _ _⟩
  · have k1 : ¬ xK B n p = 1 := by omega
    have eg : gPart B n D nst p = .inl (1, xS B n p) := by
      unfold gPart
      rw [if_neg (by omega), if_neg (fun z => k1 z.1), if_neg k1, if_neg (by rw [h40]; decide)]
    exact c199 (by omega) (fun d' _ => k199 (f := 1) rfl (by decide) hP0 (fun I1 f1 P1 => bad _ I1 J O _ _ eg P1 (hF.y f1) (hV.y f1) (by omega)))
end
