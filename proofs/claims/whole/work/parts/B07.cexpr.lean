/-! ===== expressions, the class ===== -/
def pvS (g : Nat → pX) (s : xT) : xT := match s with
  | .inl p => (match g p with
    | .inl e => .inr e
    | .inr r => .inl r.2)
  | .inr e => .inr e
def pvC (g : Nat → pX) (s : xT) : List Int := match s with
  | .inl p => (match g p with
    | .inl _ => []
    | .inr r => r.1)
  | .inr _ => []
theorem pvS_y {g : Nat → pX} {p : Nat} {C : List Int} {q : Nat} (h : g p = .inr (C, q)) : pvS g (.inl p) = .inl q ∧ pvC g (.inl p) = C := by
  unfold pvS pvC
  simp only [h]
  exact ⟨trivial, trivial⟩
theorem pvS_n {g : Nat → pX} {p : Nat} {e : Nat × Nat} (h : g p = .inl e) : pvS g (.inl p) = .inr e ∧ pvC g (.inl p) = [] := by
  unfold pvS pvC
  simp only [h]
  exact ⟨trivial, trivial⟩
def CK (I : Nat → Nat → Int) (b : Bool) (base : Nat) (C : List Int) : Prop := I (z_md b) 16 = ((base + C.length : Nat) : Int) ∧ ∀ (i : Nat) (c : Int), C[i]? = some c → I (z_mf b 15) (base + i) = c
def CZ (I : Nat → Nat → Int) (b : Bool) (base : Nat) : Prop := (base : Int) ≤ I (z_md b) 16 ∧ I (z_md b) 16 ≤ 700
def xFe (I I' : Nat → Nat → Int) (b : Bool) (base : Nat) : Prop := (∀ a, ¬ a = 805 → ¬ a = z_mf b 15 → ¬ a = z_md b → I' a = I a) ∧ (∀ k, ¬ k = 16 → I' (z_md b) k = I (z_md b) k) ∧ I' 805 2 = I 805 2 ∧ ∀ i, i < base → I' (z_mf b 15) i = I (z_mf b 15) i
def CL (I : Nat → Nat → Int) (b : Bool) (D : tD) : Prop := I (z_md b) 1 = dT D ∧ dT D ≤ 8 ∧ ∀ i, i < dT D → I (z_mf b 4) i = dLe D i ∧ dLe D i ≤ 122
theorem zq (b : Bool) : (¬ z_md b = 805 ∧ ¬ z_md b = 85 ∧ ¬ z_mf b 15 = 805 ∧ ¬ z_mf b 15 = 85 ∧ ¬ z_mf b 4 = 805 ∧ ¬ z_md b = z_mf b 15 ∧ ¬ z_mf b 4 = z_md b) ∧ ¬ z_mf b 4 = z_mf b 15 ∧ ¬ 85 = z_mf b 15 ∧ ¬ 85 = z_md b ∧ ¬ 805 = z_md b ∧ ¬ 805 = z_mf b 15 := by cases b <;> decide
section
variable {sc : mS} {d : Nat} {t : zT} {I J : Nat → Nat → Int} {Q : zR → zW → Prop} {B : Nat → Nat} {n : Nat} {D : tD} {b : Bool} {base : Nat}
theorem xFe.rf (I : Nat → Nat → Int) (b : Bool) (base : Nat) : xFe I I b base := ⟨fun _ _ _ _ => rfl, fun _ _ => rfl, rfl, fun _ _ => rfl⟩
theorem xFe.tr {I1 I2 : Nat → Nat → Int} (h : xFe I I1 b base) (h' : xFe I1 I2 b base) : xFe I I2 b base := ⟨fun a h1 h2 h3 => (h'.1 a h1 h2 h3).trans (h.1 a h1 h2 h3), fun k h1 => (h'.2.1 k h1).trans (h.2.1 k h1), h'.2.2.1.trans h.2.2.1, fun i hi => (h'.2.2.2 i hi).trans (h.2.2.2 i hi)⟩
theorem xFe.fr {I' : Nat → Nat → Int} (h : xFr I I') : xFe I I' b base := ⟨fun a h1 _ _ => h.1 a h1, fun k _ => by rw [h.1 _ (zq b).1.1], h.2, fun i _ => by rw [h.1 _ (zq b).1.2.2.1]⟩
theorem CZ.fr {I' : Nat → Nat → Int} (h : CZ I b base) (f : xFr I I') : CZ I' b base := by
  unfold CZ
  rw [f.1 _ (zq b).1.1]
  exact h
theorem CK.fr {I' : Nat → Nat → Int} {C : List Int} (h : CK I b base C) (f : xFr I I') : CK I' b base C := by
  unfold CK
  rw [f.1 _ (zq b).1.1, f.1 _ (zq b).1.2.2.1]
  exact h
theorem CL.fe {I' : Nat → Nat → Int} (h : CL I b D) (f : xFe I I' b base) : CL I' b D := by
  unfold CL
  rw [f.2.1 1 (by decide), f.1 _ (zq b).1.2.2.2.2.1 (zq b).2.1 (zq b).1.2.2.2.2.2.2]
  exact h
theorem k124 {c : Int} (hz : CZ I (t_eb t) base) (h : ∀ (I' : Nat → Nat → Int), xFe I I' (t_eb t) base → CZ I' (t_eb t) base → I' 805 = I 805 → I' 85 = I 85 → (∀ C, CK I (t_eb t) base C → base + C.length < 700 → CK I' (t_eb t) base (C ++ [c])) → Q (.inl none) (z_cfg t, I', J)) : Go sc d mt_124 0 [vr 805, vi c] [] (z_cfg t, I, J) Q := by
  have q := zq (t_eb t)
  have hz1 := hz.1
  have hz2 := hz.2
  refine b124_0 ⟨⟨by omega, by omega⟩, fun c1 => ⟨⟨by omega, by omega⟩, ?_⟩, fun c1 => ?_⟩
  · refine h _ ⟨fun a _ h2 h3 => by rw [zu_ne h3, zu_ne h2], fun k hk => by rw [zu_nk hk, zu_ne q.1.2.2.2.2.2.1], ?_, fun i hi => ?_⟩ ?_ ?_ ?_ (fun C hC hl => ⟨?_, fun i c' hi => ?_⟩)
    · rw [zu_ne q.2.2.2.2.1, zu_ne q.2.2.2.2.2]
    · rw [zu_ne (fun z => q.1.2.2.2.2.2.1 z.symm), zu_nk (by omega)]
    · unfold CZ
      rw [zu_same]
      omega
    · rw [zu_ne q.2.2.2.2.1, zu_ne q.2.2.2.2.2]
    · rw [zu_ne q.2.2.2.1, zu_ne q.2.2.1]
    · rw [zu_same, hC.1, List.length_append]
      show ((base + C.length : Nat) : Int) + 1 = ((base + (C.length + 1) : Nat) : Int)
      omega
    · rw [zu_ne (fun z => q.1.2.2.2.2.2.1 z.symm), zu_at, hC.1, Int.toNat_natCast]
      by_cases z : i < C.length
      · rw [if_neg (by omega)]
        rw [List.getElem?_append_left z] at hi
        exact hC.2 i c' hi
      · rw [List.getElem?_append_right (by omega)] at hi
        have hlt := (List.getElem?_eq_some_iff.mp hi).1
        have hlt : i - C.length < 1 := hlt
        have z2 : i = C.length := by omega
        rw [z2, Nat.sub_self] at hi
        have hi : some c = some c' := hi
        cases hi
        rw [if_pos (by omega)]
  · refine h I (xFe.rf I _ base) hz rfl rfl (fun C hC hl => ?_)
    have := hC.1
    omega
theorem k113 {x1 : Int} {c : Nat} (e1 : x1 = c) (hc : c < 256) (hL : CL I (t_eb t) D) (hq : Q (.inl (some (vi (match xNm D c (dT D) 0 with | none => -1 | some i => ((i : Nat) : Int))))) (z_cfg t, I, J)) : Go sc d mt_113 0 [vr 805, vi x1, vn] [] (z_cfg t, I, J) Q := by
  subst e1
  have h8 := hL.2.1
  have loop : ∀ (m i : Nat), i + m = dT D → Q (.inl (some (vi (match xNm D c m i with | none => -1 | some i => ((i : Nat) : Int))))) (z_cfg t, I, J) → Go sc d mt_113 2 [vr 805, vi (c : Int), vi (i : Int)] [] (z_cfg t, I, J) Q := by
    intro m
    induction m with
    | zero =>
      intro i hi hq
      refine b113_2 ?_
      rw [hL.1]
      exact ⟨⟨by omega, by omega⟩, ⟨by omega, by omega⟩, fun z => by omega, fun _ => hq⟩
    | succ m ih =>
      intro i hi hq
      have hl := hL.2.2 i (by omega)
      refine b113_2 ?_
      rw [hL.1, Int.toNat_natCast, hl.1]
      refine ⟨⟨by omega, by omega⟩, ⟨by omega, by omega⟩, fun _ => ⟨fun _ => ⟨⟨by omega, by omega⟩, ⟨by omega, by omega⟩, ⟨by omega, by omega⟩, fun c2 => ?_, fun c2 => ?_⟩, fun z => by omega⟩, fun z => by omega⟩
      · have e : xNm D c (m + 1) i = some i := by unfold xNm; rw [if_pos (by omega)]
        rw [e] at hq
        exact hq
      · have e : xNm D c (m + 1) i = xNm D c m (i + 1) := by
          show (if dLe D i = c then some i else xNm D c m (i + 1)) = _
          rw [if_neg (by omega)]
        rw [e] at hq
        rw [show (i : Int) + 1 = ((i + 1 : Nat) : Int) by omega]
        exact ih (i + 1) (by omega) hq
  exact b113_0 (loop (dT D) 0 (Nat.zero_add _) hq)
theorem k123 {x1 x2 x3 x4 : Int} {c1 c2 : Nat} {s : xT} (e1 : x1 = c1) (e3 : x3 = c2) (h1 : c1 < 128) (h2 : c2 < 128) (hd : 1 ≤ d) (h : CP I B n s) (hq : Q (.inl (some (vi (if xIsG B n c1 s = true then x2 else if xIsG B n c2 s = true then x4 else -1)))) (z_cfg t, I, J)) : Go sc d mt_123 0 [vr 805, vi x1, vi x2, vi x3, vi x4] [] (z_cfg t, I, J) Q := by
  refine b123_0 (c108 hd (fun d' _ => k108 e1 h1 h (b123_5 ?_)))
  cases hb : xIsG B n c1 s with
  | true =>
    rw [hb, if_pos rfl] at hq
    exact ⟨⟨by decide, by decide⟩, fun z => absurd z (by decide), fun _ => hq⟩
  | false =>
    rw [hb, if_neg (by decide)] at hq
    refine ⟨⟨by decide, by decide⟩, fun _ => ?_, fun z => absurd rfl z⟩
    refine c108 hd (fun d' _ => k108 e3 h2 h (b123_15 ?_))
    cases hb2 : xIsG B n c2 s with
    | true =>
      rw [hb2, if_pos rfl] at hq
      exact ⟨⟨by decide, by decide⟩, fun z => absurd z (by decide), fun _ => hq⟩
    | false =>
      rw [hb2, if_neg (by decide)] at hq
      exact ⟨⟨by decide, by decide⟩, fun _ => hq, fun z => absurd rfl z⟩
def xOpI (B : Nat → Nat) (n L : Nat) (s : xT) : Int := match s with
  | .inl p => (match xOp B n L p with
    | none => -1
    | some o => o)
  | .inr _ => -1
theorem xOpI_l (L p : Nat) : xOpI B n L (.inl p) = (match xOp B n L p with | none => -1 | some o => o) := rfl
theorem xOp_2 (p : Nat) : xOp B n 2 p = if xIsG B n 60 (.inl p) = true then some 1202 else if xIsG B n 61 (.inl p) = true then some 1203 else none := rfl
theorem xOp_3 (p : Nat) : xOp B n 3 p = if xIsG B n 43 (.inl p) = true then some 1204 else if xIsG B n 45 (.inl p) = true then some 1205 else none := rfl
theorem xOp_4 (p : Nat) : xOp B n 4 p = if xIsG B n 42 (.inl p) = true then some 1206 else if xIsG B n 47 (.inl p) = true then some 1207 else none := rfl
theorem k122 {x1 : Int} {L : Nat} {s : xT} (e1 : x1 = L) (hL : L ≤ 4) (hd : 2 ≤ d) (h : CP I B n s) (hq : Q (.inl (some (vi (xOpI B n L s)))) (z_cfg t, I, J)) : Go sc d mt_122 0 [vr 805, vi x1] [] (z_cfg t, I, J) Q := by
  subst e1
  have wd : ∀ k o : Nat, k < 21 → (L = 0 ∧ k = 15 ∧ o = 1200 ∨ L = 1 ∧ k = 14 ∧ o = 1201) → xOpI B n L s = if xIsW B n k s = true then (o : Int) else -1 := fun k o _ hz => by
    cases s with
    | inr e => rfl
    | inl p =>
      unfold xOpI xOp
      rcases hz with ⟨a, b, c⟩ | ⟨a, b, c⟩ <;> subst a b c
      · simp only [if_pos]
        show _ = if xW B n p 15 = true then _ else _
        by_cases c : xW B n p 15 = true
        · rw [if_pos c, if_pos c]; rfl
        · rw [if_neg c, if_neg c]
      · simp only [if_pos, if_neg (by decide : ¬ 1 = 0)]
        show _ = if xW B n p 14 = true then _ else _
        by_cases c : xW B n p 14 = true
        · rw [if_pos c, if_pos c]; rfl
        · rw [if_neg c, if_neg c]
  have sg : ∀ c1 c2 : Nat, ∀ o1 o2 : Int, (L = 2 ∧ c1 = 60 ∧ c2 = 61 ∧ o1 = 1202 ∧ o2 = 1203 ∨ L = 3 ∧ c1 = 43 ∧ c2 = 45 ∧ o1 = 1204 ∧ o2 = 1205 ∨ L = 4 ∧ c1 = 42 ∧ c2 = 47 ∧ o1 = 1206 ∧ o2 = 1207) → xOpI B n L s = if xIsG B n c1 s = true then o1 else if xIsG B n c2 s = true then o2 else -1 := fun c1 c2 o1 o2 hz => by
    cases s with
    | inr e => rfl
    | inl p =>
      rw [xOpI_l]
      rcases hz with ⟨a, b, c, e, f⟩ | ⟨a, b, c, e, f⟩ | ⟨a, b, c, e, f⟩ <;> subst a b c e f
      · rw [xOp_2]
        by_cases c : xIsG B n 60 (.inl p) = true
        · rw [if_pos c, if_pos c]
        · rw [if_neg c, if_neg c]
          by_cases c2 : xIsG B n 61 (.inl p) = true
          · rw [if_pos c2, if_pos c2]
          · rw [if_neg c2, if_neg c2]
      · rw [xOp_3]
        by_cases c : xIsG B n 43 (.inl p) = true
        · rw [if_pos c, if_pos c]
        · rw [if_neg c, if_neg c]
          by_cases c2 : xIsG B n 45 (.inl p) = true
          · rw [if_pos c2, if_pos c2]
          · rw [if_neg c2, if_neg c2]
      · rw [xOp_4]
        by_cases c : xIsG B n 42 (.inl p) = true
        · rw [if_pos c, if_pos c]
        · rw [if_neg c, if_neg c]
          by_cases c2 : xIsG B n 47 (.inl p) = true
          · rw [if_pos c2, if_pos c2]
          · rw [if_neg c2, if_neg c2]
  refine b122_0 ⟨⟨by omega, by omega⟩, ⟨fun z => ?_, fun z => ?_, fun z => ?_, fun z => ?_, trivial⟩, fun z => ?_⟩
  · rw [wd 15 1200 (by decide) (by omega)] at hq
    refine c104 (by omega) (fun d' _ => k104 (k := 15) rfl (by decide) h (b122_38 ?_))
    cases hb : xIsW B n 15 s with
    | true => rw [hb, if_pos rfl] at hq; exact ⟨⟨by decide, by decide⟩, fun z => absurd z (by decide), fun _ => hq⟩
    | false => rw [hb, if_neg (by decide)] at hq; exact ⟨⟨by decide, by decide⟩, fun _ => hq, fun z => absurd rfl z⟩
  · rw [wd 14 1201 (by decide) (by omega)] at hq
    refine c104 (by omega) (fun d' _ => k104 (k := 14) rfl (by decide) h (b122_55 ?_))
    cases hb : xIsW B n 14 s with
    | true => rw [hb, if_pos rfl] at hq; exact ⟨⟨by decide, by decide⟩, fun z => absurd z (by decide), fun _ => hq⟩
    | false => rw [hb, if_neg (by decide)] at hq; exact ⟨⟨by decide, by decide⟩, fun _ => hq, fun z => absurd rfl z⟩
  · rw [sg 60 61 1202 1203 (by omega)] at hq
    exact c123 (by omega) (fun d' _ => k123 (c1 := 60) (c2 := 61) rfl rfl (by decide) (by decide) (by omega) h (b122_80 hq))
  · rw [sg 43 45 1204 1205 (by omega)] at hq
    exact c123 (by omega) (fun d' _ => k123 (c1 := 43) (c2 := 45) rfl rfl (by decide) (by decide) (by omega) h (b122_95 hq))
  · rw [sg 42 47 1206 1207 (by omega)] at hq
    exact c123 (by omega) (fun d' _ => k123 (c1 := 42) (c2 := 47) rfl rfl (by decide) (by decide) (by omega) h (b122_110 hq))
end
