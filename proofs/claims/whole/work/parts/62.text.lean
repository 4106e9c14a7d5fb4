/-! ===== what a text tells ===== -/
/-- shores, things, boats, laws; lamp; weight, minutes, letter; holds, load, berth; waters (bits); scope, code -/
abbrev tD : Type := (Nat × Nat × Nat × Nat) × Int × ((Nat → Nat) × (Nat → Nat) × (Nat → Nat)) × ((Nat → Nat) × (Nat → Nat) × (Nat → Nat)) × (Nat → Nat) × (Nat → Int) × (Nat → List Int)
def dS (D : tD) : Nat := D.1.1
def dT (D : tD) : Nat := D.1.2.1
def dB (D : tD) : Nat := D.1.2.2.1
def dL (D : tD) : Nat := D.1.2.2.2
def dLamp (D : tD) : Int := D.2.1
def dWt (D : tD) : Nat → Nat := D.2.2.1.1
def dMi (D : tD) : Nat → Nat := D.2.2.1.2.1
def dLe (D : tD) : Nat → Nat := D.2.2.1.2.2
def dHo (D : tD) : Nat → Nat := D.2.2.2.1.1
def dLo (D : tD) : Nat → Nat := D.2.2.2.1.2.1
def dAt (D : tD) : Nat → Nat := D.2.2.2.1.2.2
def dWa (D : tD) : Nat → Nat := D.2.2.2.2.1
def dSc (D : tD) : Nat → Int := D.2.2.2.2.2.1
def dCo (D : tD) : Nat → List Int := D.2.2.2.2.2.2
def dAll (D : tD) : Nat := 2 ^ dT D - 1
/-- how deep a law's code goes: from depth n on; none where it doesn't fit -/
def cdep : List Int → Nat → Option Nat
  | [], n => some n
  | c :: r, n => if c < 1200 then (if n < 64 then cdep r (n + 1) else none) else if c = 1208 then (if 1 ≤ n then cdep r n else none) else (if 2 ≤ n then cdep r (n - 1) else none)
/-- an operand's or an operator's code -/
def cOk (n : Nat) (c : Int) : Prop := (0 ≤ c ∧ c ≤ 999) ∨ (1000 ≤ c ∧ c < 1000 + n) ∨ (1100 ≤ c ∧ c ≤ 1105) ∨ (1200 ≤ c ∧ c ≤ 1208)
def dOk (D : tD) : Prop := (2 ≤ dS D ∧ dS D ≤ 4) ∧ dT D ≤ 8 ∧ dB D ≤ 2 ∧ dL D ≤ 12 ∧ (dLamp D = -1 ∨ (0 ≤ dLamp D ∧ dLamp D < dS D)) ∧ (∀ i, i < dT D → dWt D i ≤ 99 ∧ dMi D i ≤ 99 ∧ dLe D i ≤ 122) ∧ (∀ b, b < dB D → (1 ≤ dHo D b ∧ dHo D b ≤ 8) ∧ dLo D b ≤ 999 ∧ dAt D b < dS D) ∧
  (∀ i, i < 4 → dWa D i < 16 ∧ (dWa D i).testBit i = false) ∧ ∀ k, k < dL D → (dSc D k = -1 ∨ dSc D k = -2 ∨ dSc D k = -3 ∨ (0 ≤ dSc D k ∧ dSc D k < dS D)) ∧ cdep (dCo D k) 0 = some 1 ∧ (∀ c ∈ dCo D k, cOk (dT D) c)
/-- the class's model b tells D -/
def CD (b : Bool) (I : Nat → Nat → Int) (D : tD) : Prop := I (z_md b) 0 = dS D ∧ I (z_md b) 1 = dT D ∧ I (z_md b) 5 = dB D ∧ I (z_md b) 9 = dLamp D ∧ I (z_md b) 12 = dL D ∧
  (∀ i, i < dT D → I (z_mf b 2) i = dWt D i ∧ I (z_mf b 3) i = dMi D i ∧ I (z_mf b 4) i = dLe D i) ∧ (∀ i, i < dB D → I (z_mf b 6) i = dHo D i ∧ I (z_mf b 7) i = dLo D i ∧ I (z_mf b 8) i = dAt D i) ∧
  (∀ i, i < 4 → I (z_mf b 11) i = dWa D i) ∧ (∀ k, k < dL D → I (z_mf b 13) k = dSc D k) ∧
  ∃ st : Nat → Nat, (∀ k, k ≤ dL D → I (z_mf b 14) k = st k) ∧ (∀ k, k < dL D → st (k + 1) = st k + (dCo D k).length ∧ ∀ (i : Nat) (c : Int), (dCo D k)[i]? = some c → I (z_mf b 15) (st k + i) = c) ∧ (∀ k, k ≤ dL D → st k ≤ 700)
theorem CD.fr {b : Bool} {I I' : Nat → Nat → Int} {D : tD} (h : CD b I D) (h0 : I' (z_md b) = I (z_md b)) (hf : ∀ k, I' (z_mf b k) = I (z_mf b k)) : CD b I' D := by
  unfold CD at h ⊢
  simp only [h0, hf]
  exact h
section
variable {sc : mS} {d : Nat} {t : zT} {I J : Nat → Nat → Int} {Q : zR → zW → Prop} {bm : Bool} {D : tD}
theorem p2lt {n : Nat} (h : n ≤ 8) : 2 ^ n - 1 < 256 ∧ 1 ≤ 2 ^ n := by
  have h1 : 2 ^ n ≤ 2 ^ 8 := Nat.pow_le_pow_right (by omega) h
  have h2 := Nat.two_pow_pos n
  omega
theorem dAll_lt (hD : dOk D) : dAll D < 256 := (p2lt hD.2.1).1
theorem k27 (hC : CD bm I D) (hD : dOk D) (h : Q (.inl (some (vi (dAll D)))) (z_cfg t, I, J)) : Go sc d mt_27 0 [vr (z_md bm)] [] (z_cfg t, I, J) Q := by
  refine b27_0 ?_
  have h8 := hD.2.1
  have h1 : 2 ^ dT D ≤ 2 ^ 8 := Nat.pow_le_pow_right (by omega) h8
  have h2 := Nat.two_pow_pos (dT D)
  have e : zshl 1 (dT D : Int) = ((1 * 2 ^ dT D : Nat) : Int) := zshl_n (x := 1) (by omega) (by omega)
  rw [hC.2.1, e, show ((1 * 2 ^ dT D : Nat) : Int) - 1 = ((2 ^ dT D - 1 : Nat) : Int) by omega]
  exact h
def dAlong (D : tD) : Nat := if dLamp D = -1 then 0 else 1
theorem lamp_in (hD : dOk D) : inR (dLamp D) := by
  obtain ⟨h1, -, -, -, h2, -⟩ := hD
  constructor <;> omega
theorem k32 (hC : CD bm I D) (hD : dOk D) (h : Q (.inl (some (vi (dAlong D)))) (z_cfg t, I, J)) : Go sc d mt_32 0 [vr (z_md bm)] [] (z_cfg t, I, J) Q := by
  refine b32_0 ?_
  rw [hC.2.2.2.1]
  unfold dAlong at h
  refine ⟨lamp_in hD, fun c => ?_, fun c => ?_⟩
  · rw [if_pos c] at h; exact h
  · rw [if_neg c] at h; exact h
/-- what bears on waters -/
def dFlow (D : tD) (i j : Nat) : Bool := (dWa D i).testBit j
theorem k50 {x1 x2 : Int} {i j : Nat} (e1 : x1 = i) (e2 : x2 = j) (hi : i < 4) (hj : j < 4) (hC : CD bm I D) (hD : dOk D) (h : Q (.inl (some (vi ((dFlow D i j).toNat)))) (z_cfg t, I, J)) : Go sc d mt_50 0 [vr (z_md bm), vi x1, vi x2] [] (z_cfg t, I, J) Q := by
  subst e1 e2
  refine b50_0 ?_
  have hw := (hD.2.2.2.2.2.2.2.1 i hi).1
  have e : I (z_mf bm 11) ((i : Int)).toNat = dWa D i := hC.2.2.2.2.2.2.2.1 i hi
  rw [e, zbit (by omega) (by omega)]
  unfold dFlow at h
  refine ⟨⟨by omega, by omega⟩, fun c => by omega, fun _ => ⟨fun _ => ⟨fun c => ?_, fun c => ?_⟩, fun c => by omega⟩⟩
  · rw [c] at h; exact h
  · cases hb : (dWa D i).testBit j
    · rw [hb] at c; exact absurd rfl c
    · rw [hb] at h; exact h
/-- the first state -/
def dStart (D : tD) : Nat := (List.range (dB D)).foldl (fun s b => lmoor s b (dAt D b)) (if dLamp D = -1 then 0 else llit 0 (dLamp D).toNat)
def dStart0 (D : tD) : Nat := if dLamp D = -1 then 0 else llit 0 (dLamp D).toNat
theorem dStart0_lt (hD : dOk D) : dStart0 D < 4194304 := by
  unfold dStart0
  obtain ⟨h1, -, -, -, h2, -⟩ := hD
  split
  · omega
  · exact llit_lt (by omega) (by omega)
theorem k16l (hd : 1 ≤ d) (hC : CD bm I D) (hD : dOk D) : ∀ (m b s : Nat), b + m = dB D → s < 4194304 → Q (.inl (some (vi ((List.range' b m).foldl (fun s b => lmoor s b (dAt D b)) s : Nat)))) (z_cfg t, I, J) → Go sc d mt_16 23 [vr (z_md bm), vi (s : Int), vi (b : Int)] [] (z_cfg t, I, J) Q := by
  have h5 := hC.2.2.1
  have hB := hD.2.2.1
  intro m
  induction m with
  | zero =>
    intro b s hb hs h
    refine b16_23 ?_
    rw [h5]
    refine ⟨⟨by omega, by omega⟩, ⟨by omega, by omega⟩, fun c => by omega, fun _ => h⟩
  | succ m ih =>
    intro b s hb hs h
    obtain ⟨g1, g2, g3⟩ := hD.2.2.2.2.2.2.1 b (by omega)
    have e : I (z_mf bm 8) ((b : Int)).toNat = dAt D b := (hC.2.2.2.2.2.2.1 b (by omega)).2.2
    have hS := hD.1
    refine b16_23 ?_
    rw [h5]
    refine ⟨⟨by omega, by omega⟩, ⟨by omega, by omega⟩, fun _ => ⟨fun _ => ⟨⟨by omega, by omega⟩, ?_⟩, fun c => by omega⟩, fun c => by omega⟩
    rw [e]
    refine c18 hd (fun d' _ => k18 rfl rfl rfl hs (by omega) (by omega) ?_)
    refine b16_47 ?_
    exact ih (b + 1) (lmoor s b (dAt D b)) (by omega) (lmoor_lt hs (by omega) (by omega)) h
theorem k16 (hd : 1 ≤ d) (hC : CD bm I D) (hD : dOk D) (h : Q (.inl (some (vi (dStart D)))) (z_cfg t, I, J)) : Go sc d mt_16 0 [vr (z_md bm), vn, vn] [] (z_cfg t, I, J) Q := by
  have hr : dStart D = (List.range' 0 (dB D)).foldl (fun s b => lmoor s b (dAt D b)) (dStart0 D) := by
    unfold dStart dStart0
    rw [List.range_eq_range']
  rw [hr] at h
  have key : Go sc d mt_16 20 [vr (z_md bm), vn, vn] [vi (dStart0 D : Int)] (z_cfg t, I, J) Q := b16_20 (k16l hd hC hD (dB D) 0 _ (by omega) (dStart0_lt hD) h)
  refine b16_0 ?_
  rw [hC.2.2.2.1]
  unfold dStart0 at key
  obtain ⟨h1, -, -, -, h2, -⟩ := hD
  refine ⟨⟨by omega, by omega⟩, fun c => ?_, fun c => ?_⟩
  · rw [if_pos c] at key; exact key
  · rw [if_neg c] at key
    exact c17 hd (fun d' _ => k17 (s := 0) rfl (p := (dLamp D).toNat) (by omega) (by omega) (by omega) key)
/-- how many boats lie at a shore -/
def cntb (n s p : Nat) : Nat := match n with
  | 0 => 0
  | k + 1 => cntb k s p + (if lberth s k = p then 1 else 0)
theorem cntb_le (n s p : Nat) : cntb n s p ≤ n := by
  induction n with
  | zero => exact Nat.le_refl _
  | succ k ih =>
    show cntb k s p + (if lberth s k = p then 1 else 0) ≤ k + 1
    split <;> omega
theorem k44l {s p : Nat} (hd : 1 ≤ d) (hC : CD bm I D) (hD : dOk D) (hs : s < 4194304) (hp : p < 4) (h : Q (.inl (some (vi (cntb (dB D) s p)))) (z_cfg t, I, J)) : ∀ (m b : Nat), b + m = dB D → Go sc d mt_44 5 [vr (z_md bm), vi (s : Int), vi (p : Int), vi (cntb b s p : Int), vi (b : Int)] [] (z_cfg t, I, J) Q := by
  have h5 := hC.2.2.1
  have hB := hD.2.2.1
  intro m
  induction m with
  | zero =>
    intro b hb
    refine b44_5 ?_
    rw [h5]
    have : b = dB D := by omega
    subst this
    exact ⟨⟨by omega, by omega⟩, ⟨by omega, by omega⟩, fun c => by omega, fun _ => h⟩
  | succ m ih =>
    intro b hb
    refine b44_5 ?_
    rw [h5]
    refine ⟨⟨by omega, by omega⟩, ⟨by omega, by omega⟩, fun _ => ?_, fun c => by omega⟩
    refine c45 hd (fun d' _ => k45 rfl rfl hs (by omega) ?_)
    have hl := lberth_lt s b
    have key : ∀ x : Int, x = (cntb (b + 1) s p : Int) → Go sc d mt_44 27 [vr (z_md bm), vi (s : Int), vi (p : Int), vi x, vi (b : Int)] [] (z_cfg t, I, J) Q := by
      intro x hx
      subst hx
      exact b44_27 (ih (b + 1) (by omega))
    refine b44_20 ⟨⟨by omega, by omega⟩, ⟨by omega, by omega⟩, fun c => key _ ?_, fun c => key _ ?_⟩
    · show _ = ((cntb b s p + (if lberth s b = p then 1 else 0) : Nat) : Int)
      rw [if_pos (by omega)]
      omega
    · show _ = ((cntb b s p + (if lberth s b = p then 1 else 0) : Nat) : Int)
      rw [if_neg (by omega)]
      omega
theorem k44 {x1 x2 : Int} {s p : Nat} (e1 : x1 = s) (e2 : x2 = p) (hd : 1 ≤ d) (hC : CD bm I D) (hD : dOk D) (hs : s < 4194304) (hp : p < 4) (h : Q (.inl (some (vi (cntb (dB D) s p)))) (z_cfg t, I, J)) : Go sc d mt_44 0 [vr (z_md bm), vi x1, vi x2, vn, vn] [] (z_cfg t, I, J) Q := by
  subst e1 e2
  exact b44_0 (k44l hd hC hD hs hp h (dB D) 0 (by omega))
def dLampAt (D : tD) (s p : Nat) : Nat := if dLamp D = -1 then 0 else if llamp s = p then 1 else 0
theorem k46 {x1 x2 : Int} {s p : Nat} (e1 : x1 = s) (e2 : x2 = p) (hd : 1 ≤ d) (hC : CD bm I D) (hD : dOk D) (hs : s < 4194304) (hp : p < 4) (h : Q (.inl (some (vi (dLampAt D s p)))) (z_cfg t, I, J)) : Go sc d mt_46 0 [vr (z_md bm), vi x1, vi x2] [] (z_cfg t, I, J) Q := by
  subst e1 e2
  refine b46_0 ?_
  rw [hC.2.2.2.1]
  unfold dLampAt at h
  refine ⟨lamp_in hD, fun c => ?_, fun c => ?_⟩
  · rw [if_pos c] at h; exact h
  · rw [if_neg c] at h
    refine c47 hd (fun d' _ => k47 rfl hs ?_)
    have hl := llamp_lt s
    refine b46_12 ⟨⟨by omega, by omega⟩, ⟨by omega, by omega⟩, fun c => ?_, fun c => ?_⟩
    · rw [if_pos (by omega)] at h; exact h
    · rw [if_neg (by omega)] at h; exact h
def dAfter (D : tD) (s b p S : Nat) : Nat := if dLamp D = -1 then lmoor (lplaced s S p) b p else llit (lmoor (lplaced s S p) b p) p
theorem dAfter_lt {s b p S : Nat} (hs : s < 4194304) (hb : b < 2) (hp : p < 4) (hS : S < 256) : dAfter D s b p S < 4194304 := by
  unfold dAfter
  have h1 := lmoor_lt (lplaced_lt (p := p) hs hS) hb hp
  split
  · exact h1
  · exact llit_lt h1 hp
theorem k52 {x1 x2 x3 x4 : Int} {s b p S : Nat} (e1 : x1 = s) (e2 : x2 = b) (e3 : x3 = p) (e4 : x4 = S) (hd : 1 ≤ d) (hC : CD bm I D) (hD : dOk D) (hs : s < 4194304) (hb : b < 2) (hp : p < 4) (hS : S < 256) (h : Q (.inl (some (vi (dAfter D s b p S)))) (z_cfg t, I, J)) : Go sc d mt_52 0 [vr (z_md bm), vi x1, vi x2, vi x3, vi x4, vn] [] (z_cfg t, I, J) Q := by
  subst e1 e2 e3 e4
  have g1 := lplaced_lt (p := p) hs hS
  have g2 := lmoor_lt g1 hb hp
  refine b52_0 (c41 hd (fun d' _ => k41 rfl rfl rfl hs hS hp ?_))
  refine b52_7 (c18 hd (fun d' _ => k18 rfl rfl rfl g1 hb hp ?_))
  refine b52_12 ?_
  rw [hC.2.2.2.1]
  unfold dAfter at h
  refine ⟨lamp_in hD, fun c => ?_, fun c => ?_⟩
  · rw [if_pos c] at h; exact h
  · rw [if_neg c] at h
    exact c17 hd (fun d' _ => k17 rfl rfl g2 hp (b52_33 h))
def dGoal (D : tD) (s : Nat) : Bool := Nat.beq (s % 65536) (lplaced 0 (dAll D) (dS D - 1))
theorem lplaced0_lt {S p : Nat} (hS : S < 256) : lplaced 0 S p < 65536 := by
  unfold lplaced
  have h1 := ndiff_le 0 (S ||| S * 256)
  refine Nat.or_lt_two_pow (n := 16) (Nat.or_lt_two_pow (n := 16) (by omega) ?_) ?_ <;> split <;> omega
theorem k40 {x1 : Int} {s : Nat} (e1 : x1 = s) (hd : 1 ≤ d) (hC : CD bm I D) (hD : dOk D) (hs : s < 4194304) (h : Q (.inl (some (vi ((dGoal D s).toNat)))) (z_cfg t, I, J)) : Go sc d mt_40 0 [vr (z_md bm), vi x1] [] (z_cfg t, I, J) Q := by
  subst e1
  have hS := hD.1
  have hA := dAll_lt hD
  have e0 : zand (s : Int) 65535 = ((s % 65536 : Nat) : Int) := zandm 65535 16 rfl (by omega) (by omega)
  have g := lplaced0_lt (p := dS D - 1) hA
  refine b40_0 ?_
  rw [e0]
  refine c27 hd (fun d' _ => k27 hC hD ?_)
  refine b40_9 ?_
  rw [hC.1]
  refine c41 hd (fun d' _ => k41 (s := 0) (p := dS D - 1) rfl rfl (by omega) (by omega) hA (by omega) ?_)
  unfold dGoal at h
  refine b40_18 ⟨⟨by omega, by omega⟩, ⟨by omega, by omega⟩, fun c => ?_, fun c => ?_⟩
  · rw [show Nat.beq (s % 65536) (lplaced 0 (dAll D) (dS D - 1)) = true from by rw [show s % 65536 = lplaced 0 (dAll D) (dS D - 1) by omega]; exact Nat.beq_refl _] at h
    exact h
  · cases hb : Nat.beq (s % 65536) (lplaced 0 (dAll D) (dS D - 1))
    · rw [hb] at h; exact h
    · exact absurd (congrArg (fun x : Nat => (x : Int)) (Nat.eq_of_beq_eq_true hb)) c
end
