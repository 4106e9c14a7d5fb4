/-! ===== the reference: what a text tells, a law's value, which laws bar ===== -/
def encR (c : Int) : List Int := if c < 1000 then [1, c] else if c < 1100 then [2, c - 1000] else if c = 1100 then [2, 117] else if c = 1101 then [2, 107] else if c = 1102 then [2, 118] else if c = 1103 then [2, 119] else if c = 1104 then [2, 105] else if c = 1105 then [2, 120] else if c = 1200 then [5] else if c = 1201 then [4] else if c = 1208 then [3] else [c - 1196]
def rowAt (f : Nat → Int) (pos : Nat) (l : List Int) : Prop := ∀ (i : Nat) (x : Int), l[i]? = some x → f (pos + i) = x
theorem rowAt_app {f : Nat → Int} {pos : Nat} {l m : List Int} (h : rowAt f pos (l ++ m)) : rowAt f pos l ∧ rowAt f (pos + l.length) m := by
  constructor
  · intro i x hx
    exact h i x (by rw [List.getElem?_append_left (List.getElem?_eq_some_iff.mp hx).1]; exact hx)
  · intro i x hx
    have := h (l.length + i) x (by rw [List.getElem?_append_right (by omega), show l.length + i - l.length = i by omega]; exact hx)
    rw [Nat.add_assoc]
    exact this
/-- boat 0 holds ho, of a load of lo -/
def RD (I : Nat → Nat → Int) (D : tD) (ho lo : Nat) : Prop := I 1835 1 = dS D ∧ I 1835 2 = dT D ∧ I 1835 3 = dB D ∧ I 1835 4 = dL D ∧ I 1835 5 = dLamp D ∧
  (∀ i, i < dT D → I 1876 i = dWt D i ∧ I 1908 i = dMi D i ∧ I 1940 i = dLe D i) ∧ (∀ b, b < dB D → I 1972 b = ((if b = 0 then ho else dHo D b : Nat) : Int) ∧ I 2004 b = ((if b = 0 then lo else dLo D b : Nat) : Int) ∧ I 2036 b = dAt D b) ∧
  ((I 1835 13 = 0 ∧ ∀ i j, i < 4 → j < 4 → (dWa D i).testBit j = decide (¬ i = j)) ∨ (I 1835 13 = 1 ∧ ∀ i j, i < 4 → j < 4 → I 2070 (4 * i + j) = ((dWa D i).testBit j).toNat)) ∧ (∀ k, k < dL D → I 2100 k = dSc D k) ∧
  ∀ k, k < dL D → ∃ st : Nat, I 2132 k = st ∧ rowAt (I 2164) st ((dCo D k).flatMap encR ++ [0]) ∧ st + ((dCo D k).flatMap encR).length + 1 ≤ 1200 ∧ (dCo D k).length ≤ 700
theorem RD.fr {I I' : Nat → Nat → Int} {D : tD} {ho lo : Nat} (h : RD I D ho lo) (h0 : ∀ k, (1 ≤ k ∧ k ≤ 5) ∨ k = 13 → I' 1835 k = I 1835 k) (hf : ∀ a, a = 1876 ∨ a = 1908 ∨ a = 1940 ∨ a = 1972 ∨ a = 2004 ∨ a = 2036 ∨ a = 2070 ∨ a = 2100 ∨ a = 2132 ∨ a = 2164 → I' a = I a) : RD I' D ho lo := by
  unfold RD at h ⊢
  rw [h0 1 (by omega), h0 2 (by omega), h0 3 (by omega), h0 4 (by omega), h0 5 (by omega), h0 13 (by omega), hf 1876 (by omega), hf 1908 (by omega), hf 1940 (by omega), hf 1972 (by omega), hf 2004 (by omega), hf 2036 (by omega), hf 2070 (by omega), hf 2100 (by omega), hf 2132 (by omega), hf 2164 (by omega)]
  exact h
def KR (I : Nat → Nat → Int) (D : tD) : Prop := ∀ S p q l, 0 < S → S ≤ dAll D → p ≤ dS D → q ≤ 2 → l ≤ 1 → I 2612 (((S * 5 + p) * 3 + q) * 2 + l) = 0 ∨ I 2612 (((S * 5 + p) * 3 + q) * 2 + l) = ((dBar0 D S p q l + 1 : Nat) : Int)
def RV (I : Nat → Nat → Int) (D : tD) (ho lo : Nat) : Prop := RD I D ho lo ∧ KR I D ∧ dOk D
def FR (I I' : Nat → Nat → Int) : Prop := ∀ a, ¬ a = 2612 → ¬ a = 2644 → I' a = I a
theorem FR.rf (I : Nat → Nat → Int) : FR I I := fun _ _ _ => rfl
theorem FR.tr {I I' I2 : Nat → Nat → Int} (h1 : FR I I') (h2 : FR I' I2) : FR I I2 := fun a ha hb => (h2 a ha hb).trans (h1 a ha hb)
theorem FR.of {I I' : Nat → Nat → Int} (h : ∀ a, ¬ a = 2644 → I' a = I a) : FR I I' := fun a _ hb => h a hb
theorem RD.fb {I I' : Nat → Nat → Int} {D : tD} {ho lo : Nat} (h : RD I D ho lo) (hf : FR I I') : RD I' D ho lo := h.fr (fun k _ => by rw [hf 1835 (by decide) (by decide)]) (fun a ha => hf a (by omega) (by omega))
section
variable {sc : mS} {d : Nat} {t : zT} {I J : Nat → Nat → Int} {Q : zR → zW → Prop} {D : tD} {ho lo : Nat}
theorem pc_dec : ∀ x, x < 256 → ¬ x = 0 → (x &&& (x - 1)) < x ∧ sm 8 (fun _ => 1) (x &&& (x - 1)) + 1 = sm 8 (fun _ => 1) x := by decide +kernel
theorem sm_up {n m : Nat} {w : Nat → Nat} {S : Nat} (hnm : n ≤ m) (hS : S < 2 ^ n) : sm m w S = sm n w S := by
  induction m with
  | zero => rw [show n = 0 by omega]
  | succ k ih =>
    by_cases h : n = k + 1
    · rw [h]
    · rw [← ih (by omega)]
      show sm k w S + (if S.testBit k then w k else 0) = _
      have : S.testBit k = false := Nat.testBit_lt_two_pow (Nat.lt_of_lt_of_le hS (Nat.pow_le_pow_right (by omega) (by omega)))
      rw [this]
      simp
theorem k226loop {x0 : Int} : ∀ (x c : Nat), x < 256 → Q (.inl (some (vi ((c + sm 8 (fun _ => 1) x : Nat) : Int)))) (z_cfg t, I, J) → Go sc d mt_226 4 [vi x0, vi (c : Int), vi (x : Int)] [] (z_cfg t, I, J) Q := by
  intro x
  induction x using Nat.strongRecOn with
  | ind x ih =>
    intro c hx h
    refine b226_4 ⟨⟨by omega, by omega⟩, fun q => ?_, fun q => ?_⟩
    · have : x = 0 := by omega
      subst this
      exact h
    · obtain ⟨g1, g2⟩ := pc_dec x hx (by omega)
      rw [show ((x : Int) - 1) = ((x - 1 : Nat) : Int) by omega, zand_n (by omega) (by omega)]
      refine ih (x &&& (x - 1)) g1 (c + 1) (by omega) ?_
      rw [show c + 1 + sm 8 (fun _ => 1) (x &&& (x - 1)) = c + sm 8 (fun _ => 1) x by omega]
      exact h
theorem k226 {x0 : Int} {S n : Nat} (e0 : x0 = S) (hn : n ≤ 8) (hS : S < 2 ^ n) (h : Q (.inl (some (vi (sm n (fun _ => 1) S)))) (z_cfg t, I, J)) : Go sc d mt_226 0 [vi x0, vn, vn] [] (z_cfg t, I, J) Q := by
  subst e0
  have h8 : 2 ^ n ≤ 2 ^ 8 := Nat.pow_le_pow_right (by omega) hn
  refine b226_0 (k226loop S 0 (by omega) ?_)
  rw [Nat.zero_add, sm_up hn hS]
  exact h
theorem lt_all {S : Nat} (h : S ≤ dAll D) : S < 2 ^ dT D := by
  unfold dAll at h
  have := Nat.two_pow_pos (dT D)
  omega
theorem k227loop {S : Nat} (hR : RD I D ho lo) (hD : dOk D) (hS : S ≤ dAll D) (h : Q (.inl (some (vi (sm (dT D) (dWt D) S)))) (z_cfg t, I, J)) : ∀ (m k : Nat), k + m = dT D → Go sc d mt_227 5 [vr 1835, vi (S : Int), vr 1876, vi ((sm k (dWt D) S : Nat) : Int), vi (k : Int)] [] (z_cfg t, I, J) Q := by
  have hA := dAll_lt hD
  have hn := hD.2.1
  intro m
  induction m with
  | zero =>
    intro k hk
    have : k = dT D := by omega
    subst this
    refine b227_5 ?_
    rw [hR.2.1]
    exact ⟨⟨by omega, by omega⟩, ⟨by omega, by omega⟩, fun c => by omega, fun _ => h⟩
  | succ m ih =>
    intro k hk
    refine b227_5 ?_
    rw [hR.2.1, zbit (by omega) (by omega), Int.toNat_natCast, (hR.2.2.2.2.2.1 k (by omega)).1]
    have key : ∀ v : Nat, v = (if S.testBit k then dWt D k else 0) → Go sc d mt_227 33 [vr 1835, vi (S : Int), vr 1876, vi ((sm k (dWt D) S : Nat) : Int), vi (k : Int)] [vi (v : Int), vi ((sm k (dWt D) S : Nat) : Int)] (z_cfg t, I, J) Q := by
      intro v hv
      refine b227_33 ?_
      have := ih (k + 1) (by omega)
      rw [show sm (k + 1) (dWt D) S = sm k (dWt D) S + v from by rw [hv]; rfl] at this
      exact this
    refine ⟨⟨by omega, by omega⟩, ⟨by omega, by omega⟩, fun _ => ⟨fun c => ⟨⟨by omega, by omega⟩, key _ ?_⟩, fun c => key 0 ?_⟩, fun c => by omega⟩
    · cases hb : S.testBit k
      · rw [hb] at c; cases c
      · rfl
    · cases hb : S.testBit k
      · rfl
      · rw [hb] at c; exact absurd rfl c
theorem k227 {x1 : Int} {S : Nat} (e1 : x1 = S) (hR : RD I D ho lo) (hD : dOk D) (hS : S ≤ dAll D) (h : Q (.inl (some (vi (sm (dT D) (dWt D) S)))) (z_cfg t, I, J)) : Go sc d mt_227 0 [vr 1835, vi x1, vr 1876, vn, vn] [] (z_cfg t, I, J) Q := by
  subst e1
  exact b227_0 (k227loop hR hD hS h (dT D) 0 (by omega))
theorem k228loop {S : Nat} (hR : RD I D ho lo) (hD : dOk D) (hS : S ≤ dAll D) (h : Q (.inl (some (vi (sm (dT D) (dRo D) S)))) (z_cfg t, I, J)) : ∀ (m k : Nat), k + m = dT D → Go sc d mt_228 4 [vr 1835, vi (S : Int), vi ((sm k (dRo D) S : Nat) : Int), vi (k : Int)] [] (z_cfg t, I, J) Q := by
  have hA := dAll_lt hD
  have hn := hD.2.1
  intro m
  induction m with
  | zero =>
    intro k hk
    have : k = dT D := by omega
    subst this
    refine b228_4 ?_
    rw [hR.2.1]
    exact ⟨⟨by omega, by omega⟩, ⟨by omega, by omega⟩, fun c => by omega, fun _ => h⟩
  | succ m ih =>
    intro k hk
    obtain ⟨-, gm, -⟩ := hD.2.2.2.2.2.1 k (by omega)
    refine b228_4 ?_
    rw [hR.2.1, zbit (by omega) (by omega), Int.toNat_natCast, (hR.2.2.2.2.2.1 k (by omega)).2.1]
    have key : ∀ v : Nat, v = (if S.testBit k then dRo D k else 0) → Go sc d mt_228 36 [vr 1835, vi (S : Int), vi ((sm k (dRo D) S : Nat) : Int), vi (k : Int)] [vi (v : Int), vi ((sm k (dRo D) S : Nat) : Int)] (z_cfg t, I, J) Q := by
      intro v hv
      refine b228_36 ?_
      have := ih (k + 1) (by omega)
      rw [show sm (k + 1) (dRo D) S = sm k (dRo D) S + v from by rw [hv]; rfl] at this
      exact this
    refine ⟨⟨by omega, by omega⟩, ⟨by omega, by omega⟩, fun _ => ⟨fun c => ⟨⟨by omega, by omega⟩, ⟨by omega, by omega⟩, fun c2 => key 1 ?_, fun c2 => b228_35 (key 0 ?_)⟩, fun c => b228_35 (key 0 ?_)⟩, fun c => by omega⟩
    · cases hb : S.testBit k
      · rw [hb] at c; cases c
      · unfold dRo; rw [if_pos (by omega : 0 < dMi D k)]; rfl
    · cases hb : S.testBit k
      · rfl
      · unfold dRo; rw [if_neg (by omega : ¬ 0 < dMi D k)]; rfl
    · cases hb : S.testBit k
      · rfl
      · rw [hb] at c; exact absurd rfl c
theorem k228 {x1 : Int} {S : Nat} (e1 : x1 = S) (hR : RD I D ho lo) (hD : dOk D) (hS : S ≤ dAll D) (h : Q (.inl (some (vi (sm (dT D) (dRo D) S)))) (z_cfg t, I, J)) : Go sc d mt_228 0 [vr 1835, vi x1, vn, vn] [] (z_cfg t, I, J) Q := by
  subst e1
  exact b228_0 (k228loop hR hD hS h (dT D) 0 (by omega))
theorem k225 {x1 x2 x3 x4 x5 c w : Int} {S p nb l : Nat} (e1 : x1 = w) (e2 : x2 = S) (e3 : x3 = p) (e4 : x4 = nb) (e5 : x5 = l) (hd : 1 ≤ d) (hc : cOk (dT D) c) (hw : encR c = [2, w]) (hR : RD I D ho lo) (hD : dOk D) (hS : S ≤ dAll D) (h : Q (.inl (some (vi (cop D S p nb l c)))) (z_cfg t, I, J)) : Go sc d mt_225 0 [vr 1835, vi x1, vi x2, vi x3, vi x4, vi x5] [] (z_cfg t, I, J) Q := by
  rw [e1, e2, e3, e4, e5]
  have hA := dAll_lt hD
  have hn := hD.2.1
  have hcr := cOk_in hn hc
  unfold encR at hw
  unfold cop at h
  by_cases c1 : c < 1000
  · rw [if_pos c1] at hw; cases hw
  rw [if_neg c1] at hw
  by_cases c2 : c < 1100
  · rw [if_pos c2] at hw
    have e : w = c - 1000 := by
      have := hw
      simp only [List.cons.injEq, and_true, true_and] at this
      exact this.symm
    rw [if_neg (by omega), if_neg (by omega), if_neg (by omega), if_neg (by omega), if_neg (by omega), if_neg (by omega), if_neg c1] at h
    have hk : (c - 1000).toNat < 8 := by unfold cOk at hc; omega
    refine b225_0 ⟨⟨by omega, by omega⟩, fun _ => ?_, fun q => by omega⟩
    rw [e, show c - 1000 = (((c - 1000).toNat : Nat) : Int) by omega, zbit (by omega) (by omega)]
    exact h
  rw [if_neg c2] at hw
  by_cases c3 : c = 1100
  · rw [if_pos c3] at hw h
    have e : w = 117 := by simp only [List.cons.injEq, and_true, true_and] at hw; exact hw.symm
    subst e
    exact b225_0 ⟨⟨by omega, by omega⟩, fun q => by omega, fun _ => ⟨⟨by omega, by omega⟩, ⟨fun q => by omega, fun q => by omega, fun q => by omega, fun q => by omega, fun q => by omega, fun q => by omega, fun q => by omega, fun q => by omega, fun q => by omega, fun q => by omega, fun q => by omega, fun q => by omega, fun _ => c226 hd (fun d' _ => k226 rfl hn (lt_all hS) (b225_96 h)), fun q => by omega, fun q => by omega, trivial⟩, fun q => by omega⟩⟩
  rw [if_neg c3] at hw h
  by_cases c4 : c = 1101
  · rw [if_pos c4] at hw h
    have e : w = 107 := by simp only [List.cons.injEq, and_true, true_and] at hw; exact hw.symm
    subst e
    exact b225_0 ⟨⟨by omega, by omega⟩, fun q => by omega, fun _ => ⟨⟨by omega, by omega⟩, ⟨fun q => by omega, fun q => by omega, fun _ => c227 hd (fun d' _ => k227 rfl hR hD hS (b225_106 h)), fun q => by omega, fun q => by omega, fun q => by omega, fun q => by omega, fun q => by omega, fun q => by omega, fun q => by omega, fun q => by omega, fun q => by omega, fun q => by omega, fun q => by omega, fun q => by omega, trivial⟩, fun q => by omega⟩⟩
  rw [if_neg c4] at hw h
  by_cases c5 : c = 1102
  · rw [if_pos c5] at hw h
    have e : w = 118 := by simp only [List.cons.injEq, and_true, true_and] at hw; exact hw.symm
    subst e
    exact b225_0 ⟨⟨by omega, by omega⟩, fun q => by omega, fun _ => ⟨⟨by omega, by omega⟩, ⟨fun q => by omega, fun q => by omega, fun q => by omega, fun q => by omega, fun q => by omega, fun q => by omega, fun q => by omega, fun q => by omega, fun q => by omega, fun q => by omega, fun q => by omega, fun q => by omega, fun q => by omega, fun _ => c228 hd (fun d' _ => k228 rfl hR hD hS (b225_112 h)), fun q => by omega, trivial⟩, fun q => by omega⟩⟩
  rw [if_neg c5] at hw h
  by_cases c6 : c = 1103
  · rw [if_pos c6] at hw h
    have e : w = 119 := by simp only [List.cons.injEq, and_true, true_and] at hw; exact hw.symm
    subst e
    exact b225_0 ⟨⟨by omega, by omega⟩, fun q => by omega, fun _ => ⟨⟨by omega, by omega⟩, ⟨fun q => by omega, fun q => by omega, fun q => by omega, fun q => by omega, fun q => by omega, fun q => by omega, fun q => by omega, fun q => by omega, fun q => by omega, fun q => by omega, fun q => by omega, fun q => by omega, fun q => by omega, fun q => by omega, fun _ => h, trivial⟩, fun q => by omega⟩⟩
  rw [if_neg c6] at hw h
  by_cases c7 : c = 1104
  · rw [if_pos c7] at hw h
    have e : w = 105 := by simp only [List.cons.injEq, and_true, true_and] at hw; exact hw.symm
    subst e
    exact b225_0 ⟨⟨by omega, by omega⟩, fun q => by omega, fun _ => ⟨⟨by omega, by omega⟩, ⟨fun _ => h, fun q => by omega, fun q => by omega, fun q => by omega, fun q => by omega, fun q => by omega, fun q => by omega, fun q => by omega, fun q => by omega, fun q => by omega, fun q => by omega, fun q => by omega, fun q => by omega, fun q => by omega, fun q => by omega, trivial⟩, fun q => by omega⟩⟩
  rw [if_neg c7] at hw h
  by_cases c8 : c = 1105
  · rw [if_pos c8] at hw h
    have e : w = 120 := by simp only [List.cons.injEq, and_true, true_and] at hw; exact hw.symm
    subst e
    exact b225_0 ⟨⟨by omega, by omega⟩, fun q => by omega, fun _ => ⟨⟨by omega, by omega⟩, ⟨fun q => by omega, fun q => by omega, fun q => by omega, fun q => by omega, fun q => by omega, fun q => by omega, fun q => by omega, fun q => by omega, fun q => by omega, fun q => by omega, fun q => by omega, fun q => by omega, fun q => by omega, fun q => by omega, fun q => by omega, trivial⟩, fun _ => h⟩⟩
  rw [if_neg c8] at hw
  exfalso
  by_cases c9 : c = 1200
  · rw [if_pos c9] at hw; cases hw
  rw [if_neg c9] at hw
  by_cases c10 : c = 1201
  · rw [if_pos c10] at hw; cases hw
  rw [if_neg c10] at hw
  by_cases c11 : c = 1208
  · rw [if_pos c11] at hw; cases hw
  rw [if_neg c11] at hw
  exact absurd (congrArg List.length hw) (by simp)
theorem k229 {x0 x1 x2 c w x y : Int} (e0 : x0 = w) (e1 : x1 = x) (e2 : x2 = y) (hc : 1200 ≤ c ∧ c ≤ 1207) (hw : encR c = [w]) (h : Q (.inl (some (vi (cbin c x y)))) (z_cfg t, I, J)) : Go sc d mt_229 0 [vi x0, vi x1, vi x2] [] (z_cfg t, I, J) Q := by
  rw [e0, e1, e2]
  have hw2 : (c = 1200 ∧ w = 5) ∨ (c = 1201 ∧ w = 4) ∨ (1202 ≤ c ∧ w = c - 1196) := by
    unfold encR at hw
    rw [if_neg (by omega), if_neg (by omega), if_neg (by omega), if_neg (by omega), if_neg (by omega), if_neg (by omega), if_neg (by omega), if_neg (by omega)] at hw
    by_cases c1 : c = 1200
    · rw [if_pos c1] at hw; cases hw; exact Or.inl ⟨c1, rfl⟩
    rw [if_neg c1] at hw
    by_cases c2 : c = 1201
    · rw [if_pos c2] at hw; cases hw; exact Or.inr (Or.inl ⟨c2, rfl⟩)
    rw [if_neg c2, if_neg (by omega)] at hw
    have : c - 1196 = w := by simpa using hw
    exact Or.inr (Or.inr ⟨by omega, this.symm⟩)
  refine b229_0 ?_
  unfold cbin at h
  refine ⟨⟨by omega, by omega⟩, ⟨fun q => ⟨fun a => ?_, fun a => ⟨fun b => ?_, fun b => ?_⟩⟩, fun q => ⟨fun a => ⟨fun b => ?_, fun b => ?_⟩, fun a => ?_⟩, fun q => ⟨fun a => ?_, fun a => ?_⟩, fun q => ⟨fun a => ?_, fun a => ?_⟩, fun q => ?_, fun q => ?_, fun q => ?_, trivial⟩, fun q => ⟨fun a => ?_, fun a => ⟨a, ?_⟩⟩⟩
  · rw [if_neg (by omega), if_pos (by omega : c = 1201), if_pos (Or.inl a)] at h; exact h
  · rw [if_neg (by omega), if_pos (by omega : c = 1201), if_pos (Or.inr b)] at h; exact h
  · rw [if_neg (by omega), if_pos (by omega : c = 1201), if_neg (fun z => z.elim a b)] at h; exact h
  · rw [if_pos (by omega : c = 1200), if_pos ⟨a, b⟩] at h; exact h
  · rw [if_pos (by omega : c = 1200), if_neg (fun z => b z.2)] at h; exact h
  · rw [if_pos (by omega : c = 1200), if_neg (fun z => a z.1)] at h; exact h
  · rw [if_neg (by omega), if_neg (by omega), if_pos (by omega : c = 1202), if_pos a] at h; exact h
  · rw [if_neg (by omega), if_neg (by omega), if_pos (by omega : c = 1202), if_neg a] at h; exact h
  · rw [if_neg (by omega), if_neg (by omega), if_neg (by omega), if_pos (by omega : c = 1203), if_pos a] at h; exact h
  · rw [if_neg (by omega), if_neg (by omega), if_neg (by omega), if_pos (by omega : c = 1203), if_neg a] at h; exact h
  · rw [if_neg (by omega), if_neg (by omega), if_neg (by omega), if_neg (by omega), if_pos (by omega : c = 1204)] at h; exact h
  · rw [if_neg (by omega), if_neg (by omega), if_neg (by omega), if_neg (by omega), if_neg (by omega), if_pos (by omega : c = 1205)] at h; exact h
  · rw [if_neg (by omega), if_neg (by omega), if_neg (by omega), if_neg (by omega), if_neg (by omega), if_neg (by omega), if_pos (by omega : c = 1206)] at h; exact h
  · rw [if_neg (by omega), if_neg (by omega), if_neg (by omega), if_neg (by omega), if_neg (by omega), if_neg (by omega), if_neg (by omega), if_pos a] at h; exact h
  · rw [if_neg (by omega), if_neg (by omega), if_neg (by omega), if_neg (by omega), if_neg (by omega), if_neg (by omega), if_neg (by omega), if_neg a] at h; exact h
end
