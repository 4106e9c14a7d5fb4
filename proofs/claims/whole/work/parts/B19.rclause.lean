/-! ===== a text's clauses, the reference ===== -/
def RA (I : Nat → Nat → Int) (D : tD) (w : Bool) (top : Nat) : Prop := (I 1835 29 = dS D ∧ I 1835 30 = dT D ∧ I 1835 31 = dB D ∧ I 1835 32 = dL D ∧ I 1835 33 = dLamp D ∧ I 1835 34 = (top : Int) ∧ I 1835 37 = ((w.toNat : Nat) : Int)) ∧
  (∀ i, i < dT D → I 2228 i = dWt D i ∧ I 2260 i = dMi D i ∧ I 2292 i = dLe D i) ∧ (∀ i, i < dB D → I 2324 i = dHo D i ∧ I 2356 i = dLo D i ∧ I 2388 i = dAt D i) ∧
  (∀ i j, i < 4 → j < 4 → I 2550 (4 * i + j) = ((((dWa D i).testBit j).toNat : Nat) : Int)) ∧
  ∀ k, k < dL D → I 2420 k = dSc D k ∧ ∃ st : Nat, I 2452 k = (st : Int) ∧ rowAt (I 2484) st ((dCo D k).flatMap encR ++ [0]) ∧ st + ((dCo D k).flatMap encR).length + 1 ≤ top ∧ (dCo D k).length ≤ 700
def zFm (I J I' J' : Nat → Nat → Int) : Prop := (∀ a, ¬ a = 1835 → ¬ (2228 ≤ a ∧ a ≤ 2582) → I' a = I a) ∧ (∀ k, ¬ (19 ≤ k ∧ k ≤ 37) → I' 1835 k = I 1835 k) ∧ ∀ a, ¬ a = 1835 → J' a = J a
section
variable {sc : mS} {d : Nat} {t : zT} {I J I' J' : Nat → Nat → Int} {Q : zR → zW → Prop} {B : Nat → Nat} {n : Nat} {D : tD} {w : Bool} {top : Nat}
theorem zFm.rf (I J : Nat → Nat → Int) : zFm I J I J := ⟨fun _ _ _ => rfl, fun _ _ => rfl, fun _ _ => rfl⟩
theorem zFm.tr {I1 J1 I2 J2 : Nat → Nat → Int} (h : zFm I J I1 J1) (h' : zFm I1 J1 I2 J2) : zFm I J I2 J2 := ⟨fun a h1 h2 => (h'.1 a h1 h2).trans (h.1 a h1 h2), fun k hk => (h'.2.1 k hk).trans (h.2.1 k hk), fun a ha => (h'.2.2 a ha).trans (h.2.2 a ha)⟩
theorem zFm.y (f : yF I J I' J') : zFm I J I' J' := ⟨fun a h1 _ => f.1 a h1, fun k hk => f.2.1 k (by omega) (by omega) (by omega), f.2.2⟩
theorem zFm.f {base : Nat} (f : YF I J I' J' base) : zFm I J I' J' := ⟨fun a h1 h2 => f.1 a h1 (by omega) (by omega) (by omega), fun k hk => f.2.1 k (by omega) (by omega) (by omega) (by omega) (by omega) (by omega), f.2.2.2⟩
theorem zFm.u {a k : Nat} {v : Int} (h : 2228 ≤ a ∧ a ≤ 2582) : zFm I J (z_u I a k v) J := ⟨fun b _ h2 => zu_ne (by omega), fun k _ => by rw [zu_ne (by omega)], fun _ _ => rfl⟩
theorem zFm.k {k : Nat} {v : Int} (h : 19 ≤ k ∧ k ≤ 37) : zFm I J (z_u I 1835 k v) J := ⟨fun b h1 _ => zu_ne h1, fun j hj => zu_nk (by omega), fun _ _ => rfl⟩
theorem RP.a {a k : Nat} {v : Int} {s : xT} (ha : 2228 ≤ a) (h : RP I J B n s) : RP (z_u I a k v) J B n s := h.fr (fun j _ => by rw [zu_ne (by omega)]) rfl (zu_ne (by omega))
theorem RP.k {k : Nat} {v : Int} {s : xT} (hk : 28 < k) (h : RP I J B n s) : RP (z_u I 1835 k v) J B n s := h.fr (fun j _ => zu_nk (by omega)) rfl (zu_ne (by decide))
theorem RA.y (h : RA I D w top) (f : yF I J I' J') : RA I' D w top := by
  unfold RA at h ⊢
  rw [f.2.1 29 (by decide) (by decide) (by decide), f.2.1 30 (by decide) (by decide) (by decide), f.2.1 31 (by decide) (by decide) (by decide), f.2.1 32 (by decide) (by decide) (by decide), f.2.1 33 (by decide) (by decide) (by decide), f.2.1 34 (by decide) (by decide) (by decide), f.2.1 37 (by decide) (by decide) (by decide), f.1 2228 (by decide), f.1 2260 (by decide), f.1 2292 (by decide), f.1 2324 (by decide), f.1 2356 (by decide), f.1 2388 (by decide), f.1 2550 (by decide), f.1 2420 (by decide), f.1 2452 (by decide), f.1 2484 (by decide)]
  exact h
theorem RA.toL (h : RA I D w top) (hD : dOk D) : RLt I D := ⟨h.1.2.1, hD.2.1, fun i hi => ⟨(h.2.1 i hi).2.2, (hD.2.2.2.2.2.1 i hi).2.2⟩⟩
theorem RA.th {wt mi le : Nat} (h : RA I D w top) : RA (z_u (z_u (z_u (z_u I 2292 (dT D) (le : Int)) 2228 (dT D) (wt : Int)) 2260 (dT D) (mi : Int)) 1835 30 ((dT D + 1 : Nat) : Int)) (d_T D wt mi le) w top := by
  obtain ⟨⟨a1, a2, a3, a4, a5, a6, a7⟩, h1, h2, h3, h4⟩ := h
  have md : ∀ k, ¬ k = 30 → z_u (z_u (z_u (z_u I 2292 (dT D) (le : Int)) 2228 (dT D) (wt : Int)) 2260 (dT D) (mi : Int)) 1835 30 ((dT D + 1 : Nat) : Int) 1835 k = I 1835 k := fun k hk => by rw [zu_nk hk, zu_ne (by decide), zu_ne (by decide), zu_ne (by decide)]
  have mf : ∀ a, ¬ a = 1835 → ¬ a = 2228 → ¬ a = 2260 → ¬ a = 2292 → z_u (z_u (z_u (z_u I 2292 (dT D) (le : Int)) 2228 (dT D) (wt : Int)) 2260 (dT D) (mi : Int)) 1835 30 ((dT D + 1 : Nat) : Int) a = I a := fun a b1 b2 b3 b4 => by rw [zu_ne b1, zu_ne b3, zu_ne b2, zu_ne b4]
  refine ⟨⟨(md 29 (by decide)).trans a1, zu_same _ _ _ _, (md 31 (by decide)).trans a3, (md 32 (by decide)).trans a4, (md 33 (by decide)).trans a5, (md 34 (by decide)).trans a6, (md 37 (by decide)).trans a7⟩, fun i hi => ?_, fun i hi => ?_, fun i j hi hj => ?_, fun k hk => ?_⟩
  · have hi : i < dT D + 1 := hi
    rw [zu_ne (by decide), zu_ne (by decide), zu_at, zu_ne (by decide), zu_ne (by decide), zu_at, zu_ne (by decide), zu_ne (by decide), zu_ne (by decide), zu_ne (by decide), zu_ne (by decide), zu_at]
    show _ = ((fup (dWt D) (dT D) wt i : Nat) : Int) ∧ _ = ((fup (dMi D) (dT D) mi i : Nat) : Int) ∧ _ = ((fup (dLe D) (dT D) le i : Nat) : Int)
    by_cases c : i = dT D
    · subst c
      rw [if_pos rfl, if_pos rfl, if_pos rfl, fup_y, fup_y, fup_y]
      exact ⟨rfl, rfl, rfl⟩
    · rw [if_neg c, if_neg c, if_neg c, fup_n c, fup_n c, fup_n c]
      exact h1 i (by omega)
  · rw [mf 2324 (by decide) (by decide) (by decide) (by decide), mf 2356 (by decide) (by decide) (by decide) (by decide), mf 2388 (by decide) (by decide) (by decide) (by decide)]; exact h2 i hi
  · rw [mf 2550 (by decide) (by decide) (by decide) (by decide)]; exact h3 i j hi hj
  · rw [mf 2420 (by decide) (by decide) (by decide) (by decide), mf 2452 (by decide) (by decide) (by decide) (by decide), mf 2484 (by decide) (by decide) (by decide) (by decide)]; exact h4 k hk
theorem RA.bo {ho lo at' : Nat} (h : RA I D w top) : RA (z_u (z_u (z_u (z_u I 2324 (dB D) (ho : Int)) 2356 (dB D) (lo : Int)) 2388 (dB D) (at' : Int)) 1835 31 ((dB D + 1 : Nat) : Int)) (d_B D ho lo at') w top := by
  obtain ⟨⟨a1, a2, a3, a4, a5, a6, a7⟩, h1, h2, h3, h4⟩ := h
  have md : ∀ k, ¬ k = 31 → z_u (z_u (z_u (z_u I 2324 (dB D) (ho : Int)) 2356 (dB D) (lo : Int)) 2388 (dB D) (at' : Int)) 1835 31 ((dB D + 1 : Nat) : Int) 1835 k = I 1835 k := fun k hk => by rw [zu_nk hk, zu_ne (by decide), zu_ne (by decide), zu_ne (by decide)]
  have mf : ∀ a, ¬ a = 1835 → ¬ a = 2324 → ¬ a = 2356 → ¬ a = 2388 → z_u (z_u (z_u (z_u I 2324 (dB D) (ho : Int)) 2356 (dB D) (lo : Int)) 2388 (dB D) (at' : Int)) 1835 31 ((dB D + 1 : Nat) : Int) a = I a := fun a b1 b2 b3 b4 => by rw [zu_ne b1, zu_ne b4, zu_ne b3, zu_ne b2]
  refine ⟨⟨(md 29 (by decide)).trans a1, (md 30 (by decide)).trans a2, zu_same _ _ _ _, (md 32 (by decide)).trans a4, (md 33 (by decide)).trans a5, (md 34 (by decide)).trans a6, (md 37 (by decide)).trans a7⟩, fun i hi => ?_, fun i hi => ?_, fun i j hi hj => ?_, fun k hk => ?_⟩
  · rw [mf 2228 (by decide) (by decide) (by decide) (by decide), mf 2260 (by decide) (by decide) (by decide) (by decide), mf 2292 (by decide) (by decide) (by decide) (by decide)]; exact h1 i hi
  · have hi : i < dB D + 1 := hi
    rw [zu_ne (by decide), zu_ne (by decide), zu_ne (by decide), zu_at, zu_ne (by decide), zu_ne (by decide), zu_at, zu_ne (by decide), zu_ne (by decide), zu_at, zu_ne (by decide), zu_ne (by decide)]
    show _ = ((fup (dHo D) (dB D) ho i : Nat) : Int) ∧ _ = ((fup (dLo D) (dB D) lo i : Nat) : Int) ∧ _ = ((fup (dAt D) (dB D) at' i : Nat) : Int)
    by_cases c : i = dB D
    · subst c
      rw [if_pos rfl, if_pos rfl, if_pos rfl, fup_y, fup_y, fup_y]
      exact ⟨rfl, rfl, rfl⟩
    · rw [if_neg c, if_neg c, if_neg c, fup_n c, fup_n c, fup_n c]
      exact h2 i (by omega)
  · rw [mf 2550 (by decide) (by decide) (by decide) (by decide)]; exact h3 i j hi hj
  · rw [mf 2420 (by decide) (by decide) (by decide) (by decide), mf 2452 (by decide) (by decide) (by decide) (by decide), mf 2484 (by decide) (by decide) (by decide) (by decide)]; exact h4 k hk
theorem RA.wa {f : Nat → Nat} (h : RA I D w top) (md : ∀ k, ¬ k = 37 → I' 1835 k = I 1835 k) (m37 : I' 1835 37 = 1) (mf : ∀ a, ¬ a = 1835 → ¬ a = 2550 → I' a = I a) (r : ∀ i j, i < 4 → j < 4 → I' 2550 (4 * i + j) = ((((f i).testBit j).toNat : Nat) : Int)) : RA I' (d_W D f) true top := by
  obtain ⟨⟨a1, a2, a3, a4, a5, a6, a7⟩, h1, h2, h3, h4⟩ := h
  refine ⟨⟨(md 29 (by decide)).trans a1, (md 30 (by decide)).trans a2, (md 31 (by decide)).trans a3, (md 32 (by decide)).trans a4, (md 33 (by decide)).trans a5, (md 34 (by decide)).trans a6, m37⟩, fun i hi => ?_, fun i hi => ?_, r, fun k hk => ?_⟩
  · rw [mf 2228 (by decide) (by decide), mf 2260 (by decide) (by decide), mf 2292 (by decide) (by decide)]; exact h1 i hi
  · rw [mf 2324 (by decide) (by decide), mf 2356 (by decide) (by decide), mf 2388 (by decide) (by decide)]; exact h2 i hi
  · rw [mf 2420 (by decide) (by decide), mf 2452 (by decide) (by decide), mf 2484 (by decide) (by decide)]; exact h4 k hk
theorem RA.la {v : Nat} (h : RA I D w top) : RA (z_u I 1835 33 (v : Int)) (d_La D v) w top := by
  obtain ⟨⟨a1, a2, a3, a4, a5, a6, a7⟩, h1, h2, h3, h4⟩ := h
  refine ⟨⟨by rw [zu_nk (by decide)]; exact a1, by rw [zu_nk (by decide)]; exact a2, by rw [zu_nk (by decide)]; exact a3, by rw [zu_nk (by decide)]; exact a4, zu_same _ _ _ _, by rw [zu_nk (by decide)]; exact a6, by rw [zu_nk (by decide)]; exact a7⟩, ?_, ?_, ?_, ?_⟩
  · rw [zu_ne (by decide), zu_ne (by decide), zu_ne (by decide)]; exact h1
  · rw [zu_ne (by decide), zu_ne (by decide), zu_ne (by decide)]; exact h2
  · rw [zu_ne (by decide)]; exact h3
  · rw [zu_ne (by decide), zu_ne (by decide), zu_ne (by decide)]; exact h4
theorem RA.lw {s : Int} {C : List Int} {top' : Nat} (h : RA I D w top) (md : ∀ k, ¬ k = 32 → ¬ k = 34 → (29 ≤ k ∧ k ≤ 37 ∧ ¬ k = 35 ∧ ¬ k = 36) → I' 1835 k = I 1835 k) (m32 : I' 1835 32 = ((dL D + 1 : Nat) : Int)) (m34 : I' 1835 34 = (top' : Int)) (mf : ∀ a, (2228 ≤ a ∧ a ≤ 2388) ∨ a = 2550 → I' a = I a) (r20 : ∀ i, I' 2420 i = if i = dL D then s else I 2420 i) (r52 : ∀ i, I' 2452 i = if i = dL D then (top : Int) else I 2452 i) (r84 : ∀ i, i < top → I' 2484 i = I 2484 i) (hC : rowAt (I' 2484) top (C.flatMap encR ++ [0])) (ht : top + (C.flatMap encR).length + 1 ≤ top') (h7 : C.length ≤ 700) : RA I' (d_L D s C) w top' := by
  obtain ⟨⟨a1, a2, a3, a4, a5, a6, a7⟩, h1, h2, h3, h4⟩ := h
  refine ⟨⟨(md 29 (by decide) (by decide) (by decide)).trans a1, (md 30 (by decide) (by decide) (by decide)).trans a2, (md 31 (by decide) (by decide) (by decide)).trans a3, m32, (md 33 (by decide) (by decide) (by decide)).trans a5, m34, (md 37 (by decide) (by decide) (by decide)).trans a7⟩, fun i hi => ?_, fun i hi => ?_, fun i j hi hj => ?_, fun k hk => ?_⟩
  · rw [mf 2228 (by decide), mf 2260 (by decide), mf 2292 (by decide)]; exact h1 i hi
  · rw [mf 2324 (by decide), mf 2356 (by decide), mf 2388 (by decide)]; exact h2 i hi
  · rw [mf 2550 (by decide)]; exact h3 i j hi hj
  · have hk : k < dL D + 1 := hk
    rw [r20, r52]
    show _ = fup (dSc D) (dL D) s k ∧ ∃ st : Nat, _ = (st : Int) ∧ rowAt (I' 2484) st ((fup (dCo D) (dL D) C k).flatMap encR ++ [0]) ∧ st + ((fup (dCo D) (dL D) C k).flatMap encR).length + 1 ≤ top' ∧ (fup (dCo D) (dL D) C k).length ≤ 700
    by_cases c : k = dL D
    · subst c
      rw [if_pos rfl, if_pos rfl, fup_y, fup_y]
      exact ⟨rfl, top, rfl, hC, ht, h7⟩
    · rw [if_neg c, if_neg c, fup_n c, fup_n c]
      obtain ⟨b1, st, b2, b3, b4, b5⟩ := h4 k (by omega)
      refine ⟨b1, st, b2, fun i x hx => ?_, by omega, b5⟩
      have hl := (List.getElem?_eq_some_iff.mp hx).1
      rw [List.length_append] at hl
      have hl : i < ((dCo D k).flatMap encR).length + 1 := hl
      rw [r84 _ (by omega)]
      exact b3 i x hx
/-- what is asked behind a clause of the reference -/
def RCQ (t : zT) (B : Nat → Nat) (n : Nat) (I J : Nat → Nat → Int) (Q : zR → zW → Prop) (u : Nat) (s : xT) (D : tD) (w : Bool) : Prop := ∀ (I' J' : Nat → Nat → Int), zFm I J I' J' → RP I' J' B n s → (∀ q, s = .inl q → ∃ top, 2 * top ≤ 3 * q + u ∧ RA I' D w top) → Q (.inl none) (z_cfg t, I', J')
theorem RP.tk2 {p : Nat} (h : RP I J B n (.inl p)) : I 1835 23 = xK B n p ∧ I 1835 25 = ((xE B n p - xS B n p : Nat) : Int) ∧ I 1835 27 = bA B n (xS B n p) := by
  obtain ⟨_, _, p', _, g4, g5, _⟩ := h
  subst g5
  exact ⟨g4.2.2.1, g4.2.2.2.2.1, g4.2.2.2.2.2.2.1⟩
theorem tTh3_bad {p : Nat} {e : Nat × Nat} (h : nameAt B n D (xE B n p) = .inr e) : tTh3 B n D p = .inr e := by
  have h1 : tTh1 B n D p = .inr e := by unfold tTh1; rw [h]; rfl
  have h2 : tTh2 B n D p = .inr e := by unfold tTh2; rw [h1]; rfl
  unfold tTh3
  rw [h2]
  rfl
theorem k202 {p : Nat} (hd : 5 ≤ d) (hP : RP I J B n (.inl p)) (hA : RA I D w top) (ht : 2 * top ≤ 3 * p) (hD : dOk D) (hq : RCQ t B n I J Q 3 (tThing B n D p).1 (tThing B n D p).2 w) : Go sc d mt_202 0 [vr 1835, vn, vn, vn] [] (z_cfg t, I, J) Q := by
  have h8 := hD.2.1
  have hpn := hP.n7
  have e30 := hA.1.2.1
  refine b202_0 ?_
  rw [e30]
  refine ⟨⟨by omega, by omega⟩, fun c => ?_, fun c => ?_⟩
  · have c8 : dT D = 8 := by omega
    have et : tThing B n D p = (.inr (2, xS B n p), D) := by unfold tThing; rw [if_pos c8]
    rw [et] at hq
    refine c199 (by omega) (fun d' _ => k199 (f := 2) rfl (by decide) hP (fun I1 f1 P1 => b202_14 ?_))
    exact c198 (by omega) (fun d' _ => k198 P1 (b202_18 ⟨xgi _, fun _ => hq I1 J (zFm.y f1) P1 (fun q z => by cases z), fun z => absurd rfl z⟩))
  · have c8 : ¬ dT D = 8 := by omega
    have et : tThing B n D p = (tTh3 B n D p, d_T D (xVs B n (tTh1 B n D p)) (tThM B n D p) (B (xS B n (xE B n p)))) := by unfold tThing; rw [if_neg c8]
    rw [et] at hq
    refine b202_14 (c198 (by omega) (fun d' _ => k198 hP (b202_18 ⟨xgi _, fun z => absurd z (xgn _), fun _ => ?_⟩)))
    refine c190 (by omega) (fun d' _ => k190s (by omega) hP (fun I1 J1 f1 P1 => b202_26 ?_))
    have P1 : RP I1 J1 B n (.inl (xE B n p)) := P1
    have hE := P1.n7
    have tk := P1.tk2
    have tr := P1.tk
    have A1 := hA.y f1
    have bad67 : ∀ (e : Nat × Nat) (I2 J2 : Nat → Nat → Int), nameAt B n D (xE B n p) = .inr e → yF I1 J1 I2 J2 → RP I2 J2 B n (.inr e) → Go sc d mt_202 67 [vr 1835, vn, vn, vn] [] (z_cfg t, I2, J2) Q := fun e I2 J2 he f2 P2 => by
      have e3 := tTh3_bad he
      rw [e3] at hq
      exact b202_67 (c198 (by omega) (fun d' _ => k198 P2 (b202_71 ⟨xgi _, fun _ => hq I2 J2 ((zFm.y f1).tr (zFm.y f2)) P2 (fun q z => by cases z), fun z => absurd rfl z⟩)))
    have bad42 : ¬ (xK B n (xE B n p) = 1 ∧ xE B n (xE B n p) - xS B n (xE B n p) = 1) → Go sc d mt_202 42 [vr 1835, vn, vn, vn] [] (z_cfg t, I1, J1) Q := fun z => by
      have en : nameAt B n D (xE B n p) = .inr (1, xS B n (xE B n p)) := by unfold nameAt; rw [if_neg z]
      exact b202_42 (c199 (by omega) (fun d' _ => k199 (f := 1) rfl (by decide) P1 (fun I2 f2 P2 => b202_47 (bad67 _ I2 J1 en f2 P2))))
    refine ⟨tr.2.1, fun c1 => ⟨⟨by omega, by omega⟩, fun c2 => ?_, fun c2 => bad42 (by omega)⟩, fun c1 => bad42 (by omega)⟩
    have cn : xK B n (xE B n p) = 1 ∧ xE B n (xE B n p) - xS B n (xE B n p) = 1 := by omega
    have hlt := xK_lt (by rw [cn.1]; decide : ¬ xK B n (xE B n p) = 0)
    have hl := xK1_l cn.1 (Nat.le_refl _) ((xE_r (B := B) hE.1).2.2 hlt)
    have e27 : I1 1835 27 = (B (xS B n (xE B n p)) : Int) := by
      rw [tk.2.2]
      unfold bA
      rw [if_pos hlt]
    have en : nameAt B n D (xE B n p) = (match xNm D (B (xS B n (xE B n p))) (dT D) 0 with | none => .inl (xE B n (xE B n p)) | some _ => .inr (5, xS B n (xE B n p))) := by
      unfold nameAt
      rw [if_pos cn]
      first | done | rfl
    rw [e27]
    refine c203 (by omega) (fun d' _ => k203 rfl (by omega) (A1.toL hD) (b202_58 ?_))
    cases hm : xNm D (B (xS B n (xE B n p))) (dT D) 0 with
    | some i =>
      rw [hm] at en
      have hi8 := xNm_lt _ _ _ hm
      show (inR ((i : Nat) : Int)) ∧ ((((i : Nat) : Int) = (-1 : Int) → _) ∧ (¬ ((i : Nat) : Int) = (-1 : Int) → _))
      refine ⟨⟨by omega, by omega⟩, fun z => by omega, fun _ => ?_⟩
      exact c199 (by omega) (fun d' _ => k199 (f := 5) rfl (by decide) P1 (fun I2 f2 P2 => bad67 _ I2 J1 en f2 P2))
    | none =>
      rw [hm] at en
      refine ⟨(⟨by decide, by decide⟩ : inR (-1 : Int)), fun _ => ?_, fun z => absurd rfl z⟩
      refine b202_67 (c198 (by omega) (fun d' _ => k198 P1 (b202_71 ⟨xgi _, fun z => absurd z (xgn _), fun _ => ?_⟩)))
      rw [e27]
      refine c190 (by omega) (fun d' _ => k190s (by omega) P1 (fun I2 J2 f2 P2 => b202_84 ?_))
      have P2 : RP I2 J2 B n (nameAt B n D (xE B n p)) := by rw [en]; exact P2
      refine c204 (by omega) (fun d' _ => k204 (k := 7) rfl (by decide) (by omega) P2 (fun I3 J3 f3 P3 => b202_90 ?_))
      have P3 : RP I3 J3 B n (tTh1 B n D p) := P3
      refine c197 (by omega) (fun d' _ => k197 (lo := 0) (hi := 99) rfl rfl (by omega) (by omega) (by omega) P3 (fun I4 J4 vw f4 P4 hvw => b202_97 ?_))
      have P4 : RP I4 J4 B n (tTh2 B n D p) := P4
      have f14 := ((f1.tr f2).tr f3).tr f4
      have fin : ∀ (I5 J5 : Nat → Nat → Int) (vm : Nat), yF I4 J4 I5 J5 → RP I5 J5 B n (tTh3 B n D p) → (∀ q, tTh3 B n D p = .inl q → vm = tThM B n D p) → Go sc d mt_202 128 [vr 1835, vi (B (xS B n (xE B n p)) : Int), vi (vw : Int), vi (vm : Int)] [] (z_cfg t, I5, J5) Q := fun I5 J5 vm f5 P5 hm5 => by
        have f15 := f14.tr f5
        refine b202_128 (c198 (by omega) (fun d' _ => k198 P5 (b202_132 ?_)))
        cases hs : tTh3 B n D p with
        | inr e =>
          rw [hs] at P5 hq
          exact ⟨xgi _, fun _ => hq I5 J5 (zFm.y f15) P5 (fun q z => by cases z), fun z => absurd rfl z⟩
        | inl q =>
          have A5 := hA.y f15
          have e5 := A5.1.2.1
          have em := hm5 q hs
          have h2 : ∃ q2, tTh2 B n D p = .inl q2 := by
            cases h2 : tTh2 B n D p with
            | inl q2 => exact ⟨q2, rfl⟩
            | inr e =>
              unfold tTh3 at hs
              rw [h2] at hs
              cases hs
          obtain ⟨q2, h2⟩ := h2
          have ew := hvw ⟨q2, h2⟩
          subst em ew
          have hpq : p ≤ q := by
            have a0 : aft1 n p (nameAt B n D (xE B n p)) := by
              rw [en]
              have b0 := xE_le (B := B) hpn.1
              have b1 := xE_le (B := B) b0.2
              exact ⟨by omega, b1.2⟩
            have a2 : aft1 n p (tTh2 B n D p) := a0.nw.num
            have a3 : aft1 n p (tTh3 B n D p) := by
              unfold tTh3
              split
              · exact a2.adv.num
              · exact a2
            rw [hs] at a3
            exact a3.1
          rw [e5, Int.toNat_natCast, show (dT D : Int) + 1 = ((dT D + 1 : Nat) : Int) by omega]
          rw [hs] at hq P5
          refine ⟨xgi _, fun z => absurd z (xgn _), fun _ => ⟨⟨by omega, by omega⟩, hq _ J5 ((zFm.y f15).tr ((((zFm.u (by decide)).tr (zFm.u (by decide))).tr (zFm.u (by decide))).tr (zFm.k (by decide)))) ?_ (fun q' z => ?_)⟩⟩
          · exact (((P5.a (by decide)).a (by decide)).a (by decide)).k (by decide)
          · cases z
            exact ⟨top, by omega, A5.th⟩
      refine c198 (by omega) (fun d' _ => k198 P4 (b202_104 ?_))
      cases h2 : tTh2 B n D p with
      | inr e =>
        have e3 : tTh3 B n D p = .inr e := by unfold tTh3; rw [h2]; rfl
        refine ⟨xgi _, fun _ => ?_, fun z => absurd rfl z⟩
        rw [h2] at P4
        exact fin I4 J4 0 (yF.rf _ _) (by rw [e3]; exact P4) (fun q z => by rw [e3] at z; cases z)
      | inl q2 =>
        rw [h2] at P4
        refine ⟨xgi _, fun z => absurd z (xgn _), fun _ => ?_⟩
        refine c194 (by omega) (fun d' _ => k194 (by omega) P4 (fun r hr hw => b202_111 ⟨⟨by omega, by omega⟩, fun c8 => ?_, fun c8 => ?_⟩))
        · have hw8 : xIsW B n 8 (.inl q2) = true := (hw ⟨q2, rfl⟩ 8 (by decide)).1 c8
          have e3 : tTh3 B n D p = xNum B n 1 99 (xAdv B n (.inl q2)) := by unfold tTh3; rw [h2, if_pos hw8]
          have em : tThM B n D p = xVs B n (xAdv B n (.inl q2)) := by unfold tThM; rw [h2, if_pos hw8]
          refine c190 (by omega) (fun d' _ => k190s (by omega) P4 (fun I5 J5 f5 P5 => b202_120 ?_))
          refine c197 (by omega) (fun d' _ => k197 (lo := 1) (hi := 99) rfl rfl (by omega) (by omega) (by omega) P5 (fun I6 J6 vm f6 P6 hvm => b202_127 ?_))
          rw [← e3] at P6 hvm
          exact fin I6 J6 vm (f5.tr f6) P6 (fun q z => by rw [em]; exact hvm ⟨q, z⟩)
        · have hw8 : ¬ xIsW B n 8 (.inl q2) = true := fun z => c8 ((hw ⟨q2, rfl⟩ 8 (by decide)).2 z)
          have e3 : tTh3 B n D p = .inl q2 := by unfold tTh3; rw [h2, if_neg hw8]
          have em : tThM B n D p = 0 := by unfold tThM; rw [h2, if_neg hw8]
          exact fin I4 J4 0 (yF.rf _ _) (by rw [e3]; exact P4) (fun q z => em.symm)
end
