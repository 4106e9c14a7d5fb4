/-! ===== the two readers: words; the class's small readers ===== -/
def wdL : List (List Nat) := [[115, 104, 111, 114, 101, 115], [116, 104, 105, 110, 103], [98, 111, 97, 116], [119, 97, 116, 101, 114], [119, 97, 121], [108, 97, 109, 112], [110, 101, 118, 101, 114], [119, 101, 105, 103, 104, 116], [114, 111, 119, 115], [104, 111, 108, 100, 115], [108, 111, 97, 100], [97, 116], [97, 115, 104, 111, 114, 101], [97, 98, 111, 97, 114, 100], [97, 110, 100], [111, 114], [110, 111, 116], [109, 97, 110, 121], [114, 111, 119, 101, 114, 115], [98, 111, 97, 116, 115], [115, 104, 111, 114, 101]]
def wds (k : Nat) : List Nat := wdL.getD k []
/-- where the class's word k lies -/
def wdA (k : Nat) : Nat := if k = 14 then 985 else if k = 15 then 953 else 505 + 32 * k
theorem wd_ok : ∀ k : Nat, k < 21 → (wdA k % 32 = 25 ∧ 1 ≤ wdA k / 32 ∧ wdA k / 32 ≤ 35) ∧ m_sig (wdA k) = wds k ∧ (wds k).length ≤ 6 ∧ 2 ≤ (wds k).length ∧ ∀ i : Nat, i < 6 → i < (wds k).length → 97 ≤ (wds k).getD i 0 ∧ (wds k).getD i 0 ≤ 122 := by decide +kernel
theorem wds_inj : ∀ k : Nat, k < 21 → ∀ j : Nat, j < 21 → wds k = wds j → k = j := by decide +kernel
/-- the token at p is the word k -/
def xW (B : Nat → Nat) (n p k : Nat) : Bool := decide (xK B n p = 1 ∧ xE B n p - xS B n p = (wds k).length ∧ ∀ i, i < (wds k).length → B (xS B n p + i) = (wds k).getD i 0)
theorem xW_iff {B : Nat → Nat} {n p k : Nat} : xW B n p k = true ↔ xK B n p = 1 ∧ xE B n p - xS B n p = (wds k).length ∧ ∀ i, i < (wds k).length → B (xS B n p + i) = (wds k).getD i 0 := by unfold xW; exact decide_eq_true_iff
theorem xW_one {B : Nat → Nat} {n p k j : Nat} (hk : k < 21) (hj : j < 21) (h : xW B n p k = true) (h' : xW B n p j = true) : k = j := by
  rw [xW_iff] at h h'
  refine wds_inj k hk j hj (List.ext_getElem? (fun i => ?_))
  have e : (wds k).length = (wds j).length := by omega
  by_cases c : i < (wds k).length
  · have a := h.2.2 i c
    have b := h'.2.2 i (by omega)
    rw [a, List.getD_eq_getElem?_getD, List.getD_eq_getElem?_getD, List.getElem?_eq_getElem c, List.getElem?_eq_getElem (by omega : i < (wds j).length)] at b
    rw [List.getElem?_eq_getElem c, List.getElem?_eq_getElem (by omega : i < (wds j).length)]
    exact congrArg some b
  · rw [List.getElem?_eq_none (by omega), List.getElem?_eq_none (by omega)]
/-- how far a reader is: at p, or at a fault (its number, its place) -/
abbrev xT : Type := Nat ⊕ (Nat × Nat)
def xFr (I I' : Nat → Nat → Int) : Prop := (∀ a, ¬ a = 805 → I' a = I a) ∧ I' 805 2 = I 805 2
theorem xFr.rf (I : Nat → Nat → Int) : xFr I I := ⟨fun _ _ => rfl, rfl⟩
theorem xFr.tr {I I1 I2 : Nat → Nat → Int} (h : xFr I I1) (h' : xFr I1 I2) : xFr I I2 := ⟨fun a h1 => (h'.1 a h1).trans (h.1 a h1), h'.2.trans h.2⟩
theorem xFr.fa {I I' : Nat → Nat → Int} (h : xFA I I') : xFr I I' := ⟨h.1, h.2 2 (by decide) (by decide) (by decide) (by decide)⟩
/-- the class's reader -/
def CP (I : Nat → Nat → Int) (B : Nat → Nat) (n : Nat) (s : xT) : Prop := CB I B ∧ n ≤ 700 ∧ match s with
  | .inl p => p ≤ n ∧ CT I B n p ∧ I 805 7 = 0 ∧ I 805 8 = -1
  | .inr e => I 805 2 = n ∧ I 805 4 = 4 ∧ (0 ≤ I 805 3 ∧ I 805 3 ≤ 700) ∧ (0 ≤ I 805 5 ∧ I 805 5 ≤ 700) ∧ I 805 7 = (e.1 : Int) ∧ I 805 8 = (e.2 : Int) ∧ (1 ≤ e.1 ∧ e.1 ≤ 5) ∧ e.2 ≤ 700
def xAdv (B : Nat → Nat) (n : Nat) (s : xT) : xT := match s with
  | .inl p => .inl (xE B n p)
  | .inr e => .inr e
def xFail (B : Nat → Nat) (n f : Nat) (s : xT) : xT := match s with
  | .inl p => .inr (f, xS B n p)
  | .inr e => .inr e
def xIsW (B : Nat → Nat) (n k : Nat) (s : xT) : Bool := match s with
  | .inl p => xW B n p k
  | .inr _ => false
def xIsG (B : Nat → Nat) (n c : Nat) (s : xT) : Bool := match s with
  | .inl p => decide (xK B n p = 3 ∧ B (xS B n p) = c)
  | .inr _ => false
def xIsN (B : Nat → Nat) (n : Nat) (s : xT) : Bool := match s with
  | .inl p => decide (xK B n p = 1 ∧ xE B n p - xS B n p = 1)
  | .inr _ => false
def xTW (B : Nat → Nat) (n k : Nat) (s : xT) : xT := if xIsW B n k s = true then xAdv B n s else s
def xNW (B : Nat → Nat) (n k : Nat) (s : xT) : xT := if xIsW B n k s = true then xAdv B n s else xFail B n 1 s
def xNG (B : Nat → Nat) (n c : Nat) (s : xT) : xT := if xIsG B n c s = true then xAdv B n s else xFail B n 1 s
def xNum (B : Nat → Nat) (n lo hi : Nat) (s : xT) : xT := match s with
  | .inl p => if ¬ xK B n p = 2 then .inr (1, xS B n p) else if 3 < xE B n p - xS B n p ∨ xV B n p < lo ∨ hi < xV B n p then .inr (2, xS B n p) else .inl (xE B n p)
  | .inr e => .inr e
def xSho (B : Nat → Nat) (n S : Nat) (o : Int) (s : xT) : xT := match s with
  | .inl p => if ¬ xK B n p = 2 then .inr (1, xS B n p) else if 3 < xE B n p - xS B n p then .inr (2, xS B n p) else if S ≤ xV B n p then .inr (4, xS B n p) else if (xV B n p : Int) = o then .inr (5, xS B n p) else .inl (xE B n p)
  | .inr e => .inr e
/-- the number of the token at s -/
def xVs (B : Nat → Nat) (n : Nat) (s : xT) : Nat := match s with
  | .inl p => xV B n p
  | .inr _ => 0
theorem xIsN_v (B : Nat → Nat) (n p : Nat) : xIsN B n (.inl p) = decide (xK B n p = 1 ∧ xE B n p - xS B n p = 1) := rfl
theorem xIsG_v (B : Nat → Nat) (n c p : Nat) : xIsG B n c (.inl p) = decide (xK B n p = 3 ∧ B (xS B n p) = c) := rfl
theorem xNum_1 {B : Nat → Nat} {n lo hi p : Nat} (h : ¬ xK B n p = 2) : xNum B n lo hi (.inl p) = .inr (1, xS B n p) := by
  show (if ¬ xK B n p = 2 then _ else _) = _
  rw [if_pos h]
theorem xNum_2 {B : Nat → Nat} {n lo hi p : Nat} (h : xK B n p = 2) (h2 : 3 < xE B n p - xS B n p ∨ xV B n p < lo ∨ hi < xV B n p) : xNum B n lo hi (.inl p) = .inr (2, xS B n p) := by
  show (if ¬ xK B n p = 2 then _ else if _ then _ else _) = _
  rw [if_neg (fun z => z h), if_pos h2]
theorem xNum_3 {B : Nat → Nat} {n lo hi p : Nat} (h : xK B n p = 2) (h2 : ¬ (3 < xE B n p - xS B n p ∨ xV B n p < lo ∨ hi < xV B n p)) : xNum B n lo hi (.inl p) = .inl (xE B n p) := by
  show (if ¬ xK B n p = 2 then _ else if _ then _ else _) = _
  rw [if_neg (fun z => z h), if_neg h2]
theorem xSho_v (B : Nat → Nat) (n S : Nat) (o : Int) (p : Nat) : xSho B n S o (.inl p) = if ¬ xK B n p = 2 then .inr (1, xS B n p) else if 3 < xE B n p - xS B n p then .inr (2, xS B n p) else if S ≤ xV B n p then .inr (4, xS B n p) else if (xV B n p : Int) = o then .inr (5, xS B n p) else .inl (xE B n p) := rfl
section
variable {sc : mS} {d : Nat} {t : zT} {I J : Nat → Nat → Int} {Q : zR → zW → Prop} {B : Nat → Nat} {n : Nat}
theorem CP.fr {I' : Nat → Nat → Int} {s : xT} (h : CP I B n s) (f : I' 85 = I 85) (g : I' 805 = I 805) : CP I' B n s := by
  unfold CP CB CT at h ⊢
  rw [f, g]
  exact h
theorem CP.k {s : xT} (h : CP I B n s) : inR (I 805 4) ∧ inR (I 805 3 - I 805 5) ∧ inR (I 805 5) ∧ inR (I 805 7) ∧ inR (I 805 3) := by
  cases s with
  | inl p =>
    obtain ⟨_, h2, h3, h4, h5, h6⟩ := h
    have a := xS_r (B := B) h3
    have b := xE_r (B := B) h3
    have c := xK_le B n p
    rw [h4.2.1, h4.2.2.1, h4.2.2.2.1, h5]
    exact ⟨⟨by omega, by omega⟩, ⟨by omega, by omega⟩, ⟨by omega, by omega⟩, ⟨by decide, by decide⟩, ⟨by omega, by omega⟩⟩
  | inr e =>
    obtain ⟨_, h2, h3, h4, h5, h6, h7, h8, h9, h10⟩ := h
    rw [h4, h7]
    exact ⟨⟨by decide, by decide⟩, ⟨by omega, by omega⟩, ⟨by omega, by omega⟩, ⟨by omega, by omega⟩, ⟨by omega, by omega⟩⟩
theorem k98s {p : Nat} (hd : 1 ≤ d) (h : CP I B n (.inl p)) (hq : ∀ (I' : Nat → Nat → Int), xFr I I' → CP I' B n (xAdv B n (.inl p)) → Q (.inl none) (z_cfg t, I', J)) : Go sc d mt_98 0 [vr 805] [] (z_cfg t, I, J) Q := by
  obtain ⟨h1, h2, h3, h4, h5, h6⟩ := h
  have b := xE_r (B := B) h3
  refine k98 hd h1 h2 h4.1 h4.2.1 b.2.1 (fun I' f c => hq I' (xFr.fa f) ⟨h1.fa f, h2, b.2.1, c, ?_, ?_⟩)
  · rw [f.2 7 (by decide) (by decide) (by decide) (by decide)]; exact h5
  · rw [f.2 8 (by decide) (by decide) (by decide) (by decide)]; exact h6
theorem k106 {x1 : Int} {f : Nat} {s : xT} (e1 : x1 = f) (hf : 1 ≤ f ∧ f ≤ 5) (h : CP I B n s) (hq : ∀ (I' : Nat → Nat → Int), xFr I I' → CP I' B n (xFail B n f s) → Q (.inl none) (z_cfg t, I', J)) : Go sc d mt_106 0 [vr 805, vi x1] [] (z_cfg t, I, J) Q := by
  subst e1
  have hk := h.k
  cases s with
  | inl p =>
    obtain ⟨h1, h2, h3, h4, h5, h6⟩ := h
    have a := xS_r (B := B) h3
    have b := xE_r (B := B) h3
    refine b106_0 ⟨hk.2.2.2.1, fun _ => ?_, fun z => absurd h5 z⟩
    rw [h4.2.2.2.1]
    refine hq _ ⟨fun a ha => by rw [zu_ne ha, zu_ne ha, zu_ne ha], by rw [zu_nk (by decide), zu_nk (by decide), zu_nk (by decide)]⟩ ⟨?_, h2, ?_, ?_, ?_, ?_, ?_, ?_, hf, ?_⟩
    · unfold CB
      rw [zu_ne (by decide), zu_ne (by decide), zu_ne (by decide)]
      exact h1
    · rw [zu_nk (by decide), zu_nk (by decide), zu_nk (by decide)]; exact h4.1
    · rw [zu_same]
    · rw [zu_nk (by decide), zu_nk (by decide), zu_nk (by decide), h4.2.1]; omega
    · rw [zu_nk (by decide), zu_nk (by decide), zu_nk (by decide), h4.2.2.2.1]; omega
    · rw [zu_nk (by decide), zu_nk (by decide), zu_same]
    · rw [zu_nk (by decide), zu_same]
    · show xS B n p ≤ 700
      omega
  | inr e =>
    have h7 : I 805 7 = (e.1 : Int) := h.2.2.2.2.2.2.1
    have h9 : 1 ≤ e.1 ∧ e.1 ≤ 5 := h.2.2.2.2.2.2.2.2.1
    exact b106_0 ⟨hk.2.2.2.1, fun z => by omega, fun _ => hq I (xFr.rf I) h⟩
theorem k104 {wd k : Nat} {s : xT} (hw : wd + 1 = wdA k) (hk : k < 21) (h : CP I B n s) (hq : Q (.inl (some (vi (((xIsW B n k s).toNat : Nat) : Int)))) (z_cfg t, I, J)) : Go sc d mt_104 0 [vr 805, vr (wd + 1), vn] [] (z_cfg t, I, J) Q := by
  have hi := h.k
  obtain ⟨w1, w2, w3, w4, w5⟩ := wd_ok k hk
  rw [← hw] at w1 w2
  have no : xIsW B n k s = false → Q (.inl (some (vi 0))) (z_cfg t, I, J) := fun z => by rw [z] at hq; exact hq
  have yes : xIsW B n k s = true → Q (.inl (some (vi 1))) (z_cfg t, I, J) := fun z => by rw [z] at hq; exact hq
  refine b104_0 ?_
  rw [w2]
  cases s with
  | inr e =>
    have h4 : I 805 4 = 4 := h.2.2.2.1
    exact ⟨hi.1, fun z => by omega, fun _ => no rfl⟩
  | inl p =>
    obtain ⟨h1, h2, h3, h4, h5, h6⟩ := h
    have a := xS_r (B := B) h3
    have b := xE_r (B := B) h3
    have noW : ¬ (xK B n p = 1 ∧ xE B n p - xS B n p = (wds k).length ∧ ∀ i, i < (wds k).length → B (xS B n p + i) = (wds k).getD i 0) → Q (.inl (some (vi 0))) (z_cfg t, I, J) := fun z => no (b_no (fun q => z (xW_iff.1 q)))
    refine ⟨hi.1, fun c1 => ⟨w1, hi.2.1, ⟨by omega, by omega⟩, ?_, ?_⟩, fun c1 => noW (fun z => c1 (by rw [h4.2.2.1, z.1]; rfl))⟩
    · intro c2
      have k1 : xK B n p = 1 := by have := h4.2.2.1; omega
      have hlen : xE B n p - xS B n p = (wds k).length := by have e3 := h4.2.1; have e5 := h4.2.2.2.1; omega
      have loop : ∀ (m i : Nat), i + m = (wds k).length → (∀ j, j < i → B (xS B n p + j) = (wds k).getD j 0) → Go sc d mt_104 28 [vr 805, vr (wd + 1), vi (i : Int)] [] (z_cfg t, I, J) Q := by
        intro m
        induction m with
        | zero =>
          intro i hi2 hj
          refine b104_28 ?_
          rw [w2]
          exact ⟨w1, ⟨by omega, by omega⟩, ⟨by omega, by omega⟩, fun z => by omega, fun _ => yes (xW_iff.2 ⟨k1, hlen, fun j hj2 => hj j (by omega)⟩)⟩
        | succ m ih =>
          intro i hi2 hj
          have hb := h1 (xS B n p + i) (by omega)
          have hv := sgn_v hb.2
          have w5i := w5 i (by omega) (by omega)
          refine b104_28 ?_
          rw [w2, h4.2.2.2.1, show ((xS B n p : Nat) : Int) + (i : Int) = ((xS B n p + i : Nat) : Int) by omega, Int.toNat_natCast, Int.toNat_natCast, hb.1]
          refine ⟨w1, ⟨by omega, by omega⟩, ⟨by omega, by omega⟩, fun _ => ⟨⟨by omega, by omega⟩, fun _ => ⟨⟨by omega, by omega⟩, ⟨by omega, by omega, by omega⟩, sgn_in hb.2, ⟨by omega, by omega⟩, fun c3 => ?_, fun c3 => noW (fun z => c3 (by have := z.2.2 i (by omega); omega))⟩, fun z => by omega⟩, fun z => by omega⟩
          rw [show (i : Int) + 1 = ((i + 1 : Nat) : Int) by omega]
          refine ih (i + 1) (by omega) (fun j hj2 => ?_)
          by_cases z : j = i
          · rw [z]; omega
          · exact hj j (by omega)
      exact loop (wds k).length 0 (Nat.zero_add _) (fun j hj => absurd hj (by omega))
    · intro c2
      exact noW (fun z => c2 (by have e3 := h4.2.1; have e5 := h4.2.2.2.1; omega))
theorem xIsW_l {k : Nat} {s : xT} (h : xIsW B n k s = true) : ∃ p, s = .inl p := by
  cases s with
  | inl p => exact ⟨p, rfl⟩
  | inr e => cases h
theorem xIsG_l {c : Nat} {s : xT} (h : xIsG B n c s = true) : ∃ p, s = .inl p := by
  cases s with
  | inl p => exact ⟨p, rfl⟩
  | inr e => cases h
theorem k103 {wd k : Nat} {s : xT} (hw : wd + 1 = wdA k) (hk : k < 21) (hd : 2 ≤ d) (h : CP I B n s) (hq : ∀ (I' : Nat → Nat → Int), xFr I I' → CP I' B n (xTW B n k s) → Q (.inl (some (vi (((xIsW B n k s).toNat : Nat) : Int)))) (z_cfg t, I', J)) : Go sc d mt_103 0 [vr 805, vr (wd + 1), vn] [] (z_cfg t, I, J) Q := by
  refine b103_0 (c104 (by omega) (fun d' _ => k104 hw hk h (b103_5 ?_)))
  unfold xTW at hq
  cases hb : xIsW B n k s with
  | false =>
    rw [hb, if_neg (by decide)] at hq
    exact ⟨⟨by decide, by decide⟩, fun _ => ⟨Or.inl rfl, hq I (xFr.rf I) h⟩, fun z => absurd rfl z⟩
  | true =>
    rw [hb, if_pos rfl] at hq
    obtain ⟨p, e⟩ := xIsW_l hb
    subst e
    refine ⟨⟨by decide, by decide⟩, fun z => absurd z (by decide), fun _ => ?_⟩
    exact c98 (by omega) (fun d' _ => k98s (by omega) h (fun I' f hP => b103_14 ⟨Or.inr rfl, hq I' f hP⟩))
theorem k114 {wd k : Nat} {s : xT} (hw : wd + 1 = wdA k) (hk : k < 21) (hd : 3 ≤ d) (h : CP I B n s) (hq : ∀ (I' : Nat → Nat → Int), xFr I I' → CP I' B n (xNW B n k s) → Q (.inl none) (z_cfg t, I', J)) : Go sc d mt_114 0 [vr 805, vr (wd + 1)] [] (z_cfg t, I, J) Q := by
  refine b114_0 (c103 (by omega) (fun d' _ => k103 hw hk (by omega) h (fun I1 f1 P1 => b114_5 ?_)))
  unfold xTW at P1
  unfold xNW at hq
  cases hb : xIsW B n k s with
  | false =>
    rw [hb, if_neg (by decide)] at hq
    rw [hb, if_neg (by decide)] at P1
    exact ⟨⟨by decide, by decide⟩, fun _ => c106 (by omega) (fun d' _ => k106 (f := 1) rfl (by decide) P1 (fun I2 f2 P2 => b114_13 (hq I2 (f1.tr f2) P2))), fun z => absurd rfl z⟩
  | true =>
    rw [hb, if_pos rfl] at hq
    rw [hb, if_pos rfl] at P1
    exact ⟨⟨by decide, by decide⟩, fun z => absurd z (by decide), fun _ => hq I1 f1 P1⟩
theorem k108 {x1 : Int} {c : Nat} {s : xT} (e1 : x1 = c) (hc : c < 128) (h : CP I B n s) (hq : Q (.inl (some (vi (((xIsG B n c s).toNat : Nat) : Int)))) (z_cfg t, I, J)) : Go sc d mt_108 0 [vr 805, vi x1] [] (z_cfg t, I, J) Q := by
  subst e1
  have hi := h.k
  refine b108_0 ?_
  cases s with
  | inr e =>
    have h4 : I 805 4 = 4 := h.2.2.2.1
    exact ⟨hi.1, fun z => by omega, fun _ => hq⟩
  | inl p =>
    obtain ⟨h1, h2, h3, h4, h5, h6⟩ := h
    have no : ¬ (xK B n p = 3 ∧ B (xS B n p) = c) → Q (.inl (some (vi 0))) (z_cfg t, I, J) := fun z => by
      rw [xIsG_v, decide_eq_false z] at hq; exact hq
    have yes : (xK B n p = 3 ∧ B (xS B n p) = c) → Q (.inl (some (vi 1))) (z_cfg t, I, J) := fun z => by
      rw [xIsG_v, decide_eq_true z] at hq; exact hq
    refine ⟨hi.1, fun c1 => ?_, fun c1 => no (fun z => c1 (by rw [h4.2.2.1, z.1]; rfl))⟩
    have k3 : xK B n p = 3 := by have := h4.2.2.1; omega
    have hl := xK_lt (by rw [k3]; decide : ¬ xK B n p = 0)
    have hb := h1 (xS B n p) (by omega)
    have hv := sgn_v hb.2
    rw [h4.2.2.2.1, Int.toNat_natCast, hb.1]
    exact ⟨⟨by omega, by omega⟩, fun _ => ⟨⟨by omega, by omega⟩, sgn_in hb.2, ⟨by omega, by omega⟩, fun c2 => yes ⟨k3, by omega⟩, fun c2 => no (fun z => c2 (by omega))⟩, fun z => by omega⟩
theorem k107 {x1 : Int} {c : Nat} {s : xT} (e1 : x1 = c) (hc : c < 128) (hd : 2 ≤ d) (h : CP I B n s) (hq : ∀ (I' : Nat → Nat → Int), xFr I I' → CP I' B n (xNG B n c s) → Q (.inl none) (z_cfg t, I', J)) : Go sc d mt_107 0 [vr 805, vi x1] [] (z_cfg t, I, J) Q := by
  refine b107_0 (c108 (by omega) (fun d' _ => k108 e1 hc h (b107_5 ?_)))
  unfold xNG at hq
  cases hb : xIsG B n c s with
  | false =>
    rw [hb, if_neg (by decide)] at hq
    exact ⟨⟨by decide, by decide⟩, fun _ => c106 (by omega) (fun d' _ => k106 (f := 1) rfl (by decide) h (fun I2 f2 P2 => b107_20 (hq I2 f2 P2))), fun z => absurd rfl z⟩
  | true =>
    rw [hb, if_pos rfl] at hq
    obtain ⟨p, e⟩ := xIsG_l hb
    subst e
    exact ⟨⟨by decide, by decide⟩, fun z => absurd z (by decide), fun _ => c98 (by omega) (fun d' _ => k98s (by omega) h (fun I2 f2 P2 => b107_12 (hq I2 f2 P2)))⟩
theorem k112 {s : xT} (h : CP I B n s) (hq : Q (.inl (some (vi (((xIsN B n s).toNat : Nat) : Int)))) (z_cfg t, I, J)) : Go sc d mt_112 0 [vr 805] [] (z_cfg t, I, J) Q := by
  have hi := h.k
  refine b112_0 ?_
  cases s with
  | inr e =>
    have h4 : I 805 4 = 4 := h.2.2.2.1
    exact ⟨hi.1, fun z => by omega, fun _ => hq⟩
  | inl p =>
    obtain ⟨h1, h2, h3, h4, h5, h6⟩ := h
    have a := xS_r (B := B) h3
    have b := xE_r (B := B) h3
    have e4 := h4.2.2.1
    have e3 := h4.2.1
    have e5 := h4.2.2.2.1
    rw [xIsN_v] at hq
    refine ⟨hi.1, fun c1 => ⟨hi.2.1, fun c2 => ?_, fun c2 => ?_⟩, fun c1 => ?_⟩
    · rw [decide_eq_true (by omega : xK B n p = 1 ∧ xE B n p - xS B n p = 1)] at hq; exact hq
    · rw [decide_eq_false (by omega : ¬ (xK B n p = 1 ∧ xE B n p - xS B n p = 1))] at hq; exact hq
    · rw [decide_eq_false (by omega : ¬ (xK B n p = 1 ∧ xE B n p - xS B n p = 1))] at hq; exact hq
theorem k105 {x1 x2 : Int} {lo hi : Nat} {s : xT} (e1 : x1 = lo) (e2 : x2 = hi) (hlo : lo ≤ 999) (hhi : hi ≤ 999) (hd : 2 ≤ d) (h : CP I B n s) (hq : ∀ (I' : Nat → Nat → Int) (v : Nat), xFr I I' → CP I' B n (xNum B n lo hi s) → ((∃ p, xNum B n lo hi s = .inl p) → v = xVs B n s ∧ lo ≤ v ∧ v ≤ hi) → ((¬ ∃ p, xNum B n lo hi s = .inl p) → v = lo) → Q (.inl (some (vi (v : Int)))) (z_cfg t, I', J)) : Go sc d mt_105 0 [vr 805, vi x1, vi x2, vn] [] (z_cfg t, I, J) Q := by
  subst e1 e2
  have hk := h.k
  have bad : ∀ e, ¬ ∃ p : Nat, (Sum.inr e : xT) = .inl p := fun e z => by obtain ⟨p, z⟩ := z; cases z
  refine b105_0 ?_
  cases s with
  | inr e =>
    have h4 : I 805 4 = 4 := h.2.2.2.1
    refine ⟨hk.1, fun z => by omega, fun _ => ?_⟩
    exact c106 (by omega) (fun d' _ => k106 (f := 1) rfl (by decide) h (fun I2 f2 P2 => b105_13 (hq I2 lo f2 P2 (fun z => absurd z (bad e)) (fun _ => rfl))))
  | inl p =>
    have h0 := h
    obtain ⟨h1, h2, h3, h4, h5, h6⟩ := h
    have a := xS_r (B := B) h3
    have b := xE_r (B := B) h3
    have e4 := h4.2.2.1
    have e3 := h4.2.1
    have e5 := h4.2.2.2.1
    refine ⟨hk.1, fun c1 => ?_, fun c1 => ?_⟩
    · have k2 : xK B n p = 2 := by omega
      have e6 := h4.2.2.2.2 k2
      have hv := xV_le k2
      rw [e6]
      have badg : (3 < xE B n p - xS B n p ∨ xV B n p < lo ∨ hi < xV B n p) → Go sc d mt_105 44 [vr 805, vi (lo : Int), vi (hi : Int), vn] [] (z_cfg t, I, J) Q := fun z => by
        rw [xNum_2 k2 z] at hq
        exact b105_44 (c106 (by omega) (fun d' _ => k106 (f := 2) rfl (by decide) h0 (fun I2 f2 P2 => b105_49 (hq I2 lo f2 P2 (fun z => absurd z (bad _)) (fun _ => rfl)))))
      refine ⟨hk.2.1, fun c2 => badg (by omega), fun c2 => ⟨⟨by omega, by omega⟩, ⟨by omega, by omega⟩, fun c3 => badg (by omega), fun c3 => ⟨⟨by omega, by omega⟩, fun c4 => badg (by omega), fun c4 => ?_⟩⟩⟩
      rw [xNum_3 k2 (by omega)] at hq
      exact c98 (by omega) (fun d' _ => k98s (by omega) h0 (fun I2 f2 P2 => b105_60 (hq I2 (xV B n p) f2 P2 (fun _ => ⟨rfl, by omega, by omega⟩) (fun z => absurd ⟨_, rfl⟩ z))))
    · have k2 : ¬ xK B n p = 2 := by omega
      rw [xNum_1 k2] at hq
      exact c106 (by omega) (fun d' _ => k106 (f := 1) rfl (by decide) h0 (fun I2 f2 P2 => b105_13 (hq I2 lo f2 P2 (fun z => absurd z (bad _)) (fun _ => rfl))))
theorem k116 {x1 o : Int} {S : Nat} {s : xT} (e1 : x1 = o) (ho : inR o) (hS : I (z_md (t_eb t)) 0 = S) (hS4 : 2 ≤ S ∧ S ≤ 4) (hd : 3 ≤ d) (h : CP I B n s) (hq : ∀ (I' : Nat → Nat → Int) (v : Nat), xFr I I' → CP I' B n (xSho B n S o s) → ((∃ p, xSho B n S o s = .inl p) → v = xVs B n s ∧ v < S ∧ ¬ (v : Int) = o) → v ≤ 3 → Q (.inl (some (vi (v : Int)))) (z_cfg t, I', J)) : Go sc d mt_116 0 [vr 805, vi x1] [] (z_cfg t, I, J) Q := by
  subst e1
  have hk := h.k
  have bad : ∀ e, ¬ ∃ p : Nat, (Sum.inr e : xT) = .inl p := fun e z => by obtain ⟨p, z⟩ := z; cases z
  have go56 : ∀ (I1 : Nat → Nat → Int) (s1 : xT), xFr I I1 → CP I1 B n s1 → xNum B n 0 3 s1 = xSho B n S x1 s → ((∃ p, xSho B n S x1 s = .inl p) → s1 = s ∧ xVs B n s < S ∧ ¬ (xVs B n s : Int) = x1) → Go sc d mt_116 56 [vr 805, vi x1] [] (z_cfg t, I1, J) Q := by
    intro I1 s1 f1 P1 hE hgood
    refine b116_56 (c105 (by omega) (fun d' _ => k105 (lo := 0) (hi := 3) rfl rfl (by omega) (by omega) (by omega) P1 (fun I2 v f2 P2 hv hv0 => b116_62 ?_)))
    rw [hE] at P2 hv hv0
    by_cases cg : ∃ p, xSho B n S x1 s = .inl p
    · have a := hv cg
      have b := hgood cg
      rw [b.1] at a
      exact hq I2 v (f1.tr f2) P2 (fun _ => ⟨a.1, by omega, by rw [a.1]; exact b.2.2⟩) (by omega)
    · exact hq I2 v (f1.tr f2) P2 (fun z => absurd z cg) (by rw [hv0 cg]; omega)
  refine b116_0 ?_
  cases s with
  | inr e =>
    have h4 : I 805 4 = 4 := h.2.2.2.1
    exact ⟨hk.1, fun z => by omega, fun _ => go56 I _ (xFr.rf I) h rfl (fun z => absurd z (bad _))⟩
  | inl p =>
    have h0 := h
    obtain ⟨h1, h2, h3, h4, h5, h6⟩ := h
    have a := xS_r (B := B) h3
    have b := xE_r (B := B) h3
    have e4 := h4.2.2.1
    have e3 := h4.2.1
    have e5 := h4.2.2.2.1
    have ev := xSho_v B n S x1 p
    refine ⟨hk.1, fun c1 => ?_, fun c1 => ?_⟩
    · have k2 : xK B n p = 2 := by omega
      have e6 := h4.2.2.2.2 k2
      have hv := xV_le k2
      rw [if_neg (fun z => z k2)] at ev
      rw [e6, hS]
      refine ⟨hk.2.1, fun c2 => ?_, fun c2 => ⟨⟨by omega, by omega⟩, ⟨by omega, by omega⟩, fun c3 => ⟨ho, fun c4 => ?_, fun c4 => ?_⟩, fun c3 => ?_⟩⟩
      · rw [if_pos (by omega)] at ev
        exact go56 I _ (xFr.rf I) h0 (by rw [ev, xNum_2 k2 (by omega)]) (fun z => by rw [ev] at z; exact absurd z (bad _))
      · rw [if_neg (by omega), if_neg (by omega), if_pos c4] at ev
        exact c106 (by omega) (fun d' _ => k106 (f := 5) rfl (by decide) h0 (fun I2 f2 P2 => go56 I2 _ f2 P2 (by rw [ev]; rfl) (fun z => by rw [ev] at z; exact absurd z (bad _))))
      · rw [if_neg (by omega), if_neg (by omega), if_neg c4] at ev
        exact go56 I _ (xFr.rf I) h0 (by rw [ev, xNum_3 k2 (by omega)]) (fun z => ⟨rfl, by show xV B n p < S; omega, c4⟩)
      · rw [if_neg (by omega), if_pos (by omega)] at ev
        exact c106 (by omega) (fun d' _ => k106 (f := 4) rfl (by decide) h0 (fun I2 f2 P2 => b116_40 (go56 I2 _ f2 P2 (by rw [ev]; rfl) (fun z => by rw [ev] at z; exact absurd z (bad _)))))
    · have k2 : ¬ xK B n p = 2 := by omega
      rw [if_pos k2] at ev
      exact go56 I _ (xFr.rf I) h0 (by rw [ev, xNum_1 k2]) (fun z => by rw [ev] at z; exact absurd z (bad _))
end
