/-! ===== the reference: groups at all shores ===== -/
def cntg (n s p g : Nat) : Nat := match n with
  | 0 => 0
  | k + 1 => cntg k s p g + (if g.testBit k = false ∧ lberth s k = p then 1 else 0)
theorem cntg_le (n s p g : Nat) : cntg n s p g ≤ n := by
  induction n with
  | zero => exact Nat.le_refl _
  | succ k ih =>
    show cntg k s p g + (if g.testBit k = false ∧ lberth s k = p then 1 else 0) ≤ k + 1
    split <;> omega
theorem cntg_0 (n s p : Nat) : cntg n s p 0 = cntb n s p := by
  induction n with
  | zero => rfl
  | succ k ih =>
    show cntg k s p 0 + (if Nat.testBit 0 k = false ∧ lberth s k = p then 1 else 0) = cntb k s p + (if lberth s k = p then 1 else 0)
    rw [ih, Nat.zero_testBit]
    by_cases h : lberth s k = p
    · rw [if_pos ⟨rfl, h⟩, if_pos h]
    · rw [if_neg (fun z => h z.2), if_neg h]
theorem cntg_1 {n s p b : Nat} : cntg n s p (2 ^ b) + (if b < n ∧ lberth s b = p then 1 else 0) = cntb n s p := by
  induction n with
  | zero => rw [if_neg (by omega)]; rfl
  | succ k ih =>
    show cntg k s p (2 ^ b) + (if (2 ^ b).testBit k = false ∧ lberth s k = p then 1 else 0) + (if b < k + 1 ∧ lberth s b = p then 1 else 0) = cntb k s p + (if lberth s k = p then 1 else 0)
    rw [Nat.testBit_two_pow]
    by_cases e : b = k
    · subst e
      rw [if_neg (by omega)] at ih
      rw [decide_eq_true rfl, if_neg (fun z => by cases z.1)]
      by_cases h : lberth s b = p
      · rw [if_pos ⟨by omega, h⟩, if_pos h]; omega
      · rw [if_neg (fun z => h z.2), if_neg h]; omega
    · rw [decide_eq_false e]
      have e1 : (b < k + 1 ∧ lberth s b = p) ↔ (b < k ∧ lberth s b = p) := by omega
      simp only [e1]
      by_cases h : lberth s k = p
      · rw [if_pos ⟨trivial, h⟩, if_pos h]; omega
      · rw [if_neg (fun z => h z.2), if_neg h]; omega
def rShB (D : tD) (s gone g : Nat) (lg : Bool) (p : Nat) : Nat := dBars D (ndiff (lash s p (dT D)) gone) p (cntg (dB D) s p g) (if lg then 0 else dLampAt D s p)
theorem ndiff_0 (x : Nat) : ndiff x 0 = x := by
  unfold ndiff
  rw [Nat.and_zero, Nat.xor_zero]
theorem rShB_all (D : tD) (s p : Nat) : rShB D s 0 0 false p = dShB D s p := by
  unfold rShB dShB
  rw [ndiff_0, cntg_0, if_neg (by decide)]
theorem rShB_wa {D : tD} {s b S p : Nat} (hb : b < dB D) : rShB D s S (2 ^ b) true p = dWaB D s b S p := by
  unfold rShB dWaB
  have h := cntg_1 (n := dB D) (s := s) (p := p) (b := b)
  rw [if_pos rfl]
  by_cases e : lberth s b = p
  · rw [if_pos ⟨hb, e⟩] at h
    rw [if_pos e.symm, show cntg (dB D) s p (2 ^ b) = cntb (dB D) s p - 1 by omega]
  · rw [if_neg (fun z => e z.2)] at h
    rw [if_neg (fun z => e z.symm), show cntg (dB D) s p (2 ^ b) = cntb (dB D) s p - 0 by omega]
theorem orN_cg {n : Nat} {f g : Nat → Nat} (h : ∀ i, i < n → f i = g i) : orN n f = orN n g := by
  induction n with
  | zero => rfl
  | succ k ih =>
    show orN k f ||| f k = orN k g ||| g k
    rw [ih (fun i hi => h i (by omega)), h k (by omega)]
section
variable {sc : mS} {d : Nat} {t : zT} {I J : Nat → Nat → Int} {Q : zR → zW → Prop} {D : tD} {ho lo : Nat}
/-- the law left out stays as it is -/
theorem FR.w {I I' : Nat → Nat → Int} {w : Int} (h : I 1835 52 = w) (hf : FR I I') : I' 1835 52 = w := by
  rw [hf 1835 (by decide) (by decide)]
  exact h
theorem k243b {s r gone g p : Nat} {lg : Bool} {x5 : Int} (hd : 1 ≤ d) (hV : RV I D ho lo) (hs : SR s r) (hg : g < 4) (hp : p < dS D)
    (h : ∀ l : Nat, l = (if lg then 0 else dLampAt D s p) → ∀ x8 : Int, Go sc d mt_243 88 [vr 1835, vi (r : Int), vi (gone : Int), vi (g : Int), vi ((lg.toNat : Nat) : Int), vi x5, vi (p : Int), vi ((cntg (dB D) s p g : Nat) : Int), vi x8] [vi (l : Int)] (z_cfg t, I, J) Q) :
    ∀ (m k : Nat), k + m = dB D → Go sc d mt_243 21 [vr 1835, vi (r : Int), vi (gone : Int), vi (g : Int), vi ((lg.toNat : Nat) : Int), vi x5, vi (p : Int), vi ((cntg k s p g : Nat) : Int), vi (k : Int)] [] (z_cfg t, I, J) Q := by
  obtain ⟨hR, hK, hD⟩ := hV
  have hB := hD.2.2.1
  have hS := hD.1
  have hlg := Bool.toNat_le lg
  intro m
  induction m with
  | zero =>
    intro k hk
    have : k = dB D := by omega
    subst this
    refine b243_21 ?_
    have e20 : zand (zshr (r : Int) 20) 3 = (llamp s : Int) := by
      rw [llamp_eq, ← hs.2.2 10 (by omega) (by omega), ← zdg hs.1 (by omega)]
      rfl
    rw [hR.2.2.1, hR.2.2.2.2.1, e20]
    have hl := llamp_lt s
    unfold dLampAt at h
    refine ⟨⟨by omega, by omega⟩, ⟨by omega, by omega⟩, fun c => by omega, fun _ => ⟨lamp_in hD, fun c => b243_87 (h 0 ?_ _), fun c => ⟨⟨by omega, by omega⟩, fun c2 => ⟨⟨by omega, by omega⟩, fun c3 => h 1 ?_ _, fun c3 => b243_87 (h 0 ?_ _)⟩, fun c2 => b243_87 (h 0 ?_ _)⟩⟩⟩
    · rw [if_pos c]; split <;> rfl
    · cases lg
      · rw [if_neg (by decide), if_neg c, if_pos (by omega)]
      · exact absurd c2 (by decide)
    · cases lg
      · rw [if_neg (by decide), if_neg c, if_neg (by omega)]
      · rfl
    · cases lg
      · exact absurd rfl c2
      · rfl
  | succ m ih =>
    intro k hk
    have hl := lberth_lt s k
    have key : ∀ x : Int, x = ((cntg (k + 1) s p g : Nat) : Int) → Go sc d mt_243 53 [vr 1835, vi (r : Int), vi (gone : Int), vi (g : Int), vi ((lg.toNat : Nat) : Int), vi x5, vi (p : Int), vi x, vi (k : Int)] [] (z_cfg t, I, J) Q := by
      intro x hx
      subst hx
      exact b243_53 (ih (k + 1) (by omega))
    have ec : cntg (k + 1) s p g = cntg k s p g + (if g.testBit k = false ∧ lberth s k = p then 1 else 0) := rfl
    refine b243_21 ?_
    rw [hR.2.2.1, zbit (by omega) (by omega)]
    refine ⟨⟨by omega, by omega⟩, ⟨by omega, by omega⟩, fun _ => ⟨fun c => ?_, fun c => key _ ?_⟩, fun c => by omega⟩
    · have hgk : g.testBit k = false := by
        cases hq : g.testBit k
        · rfl
        · rw [hq] at c; cases c
      refine c244 hd (fun d' _ => k244 rfl rfl hs.1 (by omega) ?_)
      rw [hs.2.2 (8 + k) (by omega) (by omega), ← lberth_eq]
      refine b243_45 ⟨⟨by omega, by omega⟩, ⟨by omega, by omega⟩, fun c2 => key _ ?_, fun c2 => key _ ?_⟩
      · rw [ec, if_pos ⟨hgk, by omega⟩]; omega
      · rw [ec, if_neg (fun z => c2 (by omega))]; omega
    · rw [ec, if_neg (fun z => c (by rw [z.1]; rfl))]; omega
theorem k243loop {s r gone g : Nat} {lg : Bool} {w : Int} (hd : 4 ≤ d) (hs : SR s r) (hgo : gone < 256) (hg : g < 4) (hwo : wOk D w) (h : ∀ I', FR I I' → RV I' D ho lo → Q (.inl (some (vi ((kp w (orN (dS D) (rShB D s gone g lg)) : Nat) : Int)))) (z_cfg t, I', J)) :
    ∀ (m p : Nat) (I1 : Nat → Nat → Int) (v7 v8 : zV), p + m = dS D → FR I I1 → RV I1 D ho lo → I1 1835 52 = w → Go sc d mt_243 6 [vr 1835, vi (r : Int), vi (gone : Int), vi (g : Int), vi ((lg.toNat : Nat) : Int), vi ((orN p (rShB D s gone g lg) : Nat) : Int), vi (p : Int), v7, v8] [] (z_cfg t, I1, J) Q := by
  intro m
  induction m with
  | zero =>
    intro p I1 v7 v8 hp hF hV hw
    have hD := hV.2.2
    have hS := hD.1
    have : p = dS D := by omega
    subst this
    have g1 : orN (dS D) (rShB D s gone g lg) < 2 ^ 12 := orN_lt (fun i _ => dBars_lt hD _ _ _ _)
    refine b243_6 ?_
    rw [hV.1.1]
    refine ⟨⟨by omega, by omega⟩, ⟨by omega, by omega⟩, fun c => by omega, fun _ => ?_⟩
    exact c246 (by omega) (fun d' _ => k246 rfl hw hwo hD g1 (b243_136 (h I1 hF hV)))
  | succ m ih =>
    intro p I1 v7 v8 hp hF hV hw
    have hD := hV.2.2
    have hS := hD.1
    have hB := hD.2.2.1
    have hA := dAll_lt hD
    have ga := lash_le (D := D) (s := s) (p := p)
    have gd := ndiff_le (lash s p (dT D)) gone
    have gc := cntg_le (dB D) s p g
    refine b243_6 ?_
    rw [hV.1.1]
    refine ⟨⟨by omega, by omega⟩, ⟨by omega, by omega⟩, fun _ => ?_, fun c => by omega⟩
    refine k243b (by omega) hV hs hg (by omega) (fun l hl x8 => ?_) (dB D) 0 (by omega)
    have hl1 : l ≤ 1 := by
      rw [hl]
      split
      · omega
      · exact dLampAt_le s p
    refine b243_88 (c245 (by omega) (fun d' _ => k245 rfl rfl hV.1 hD hs (by omega) ?_))
    have fin : ∀ y : Int, y = (l : Int) → Go sc d mt_243 118 [vr 1835, vi (r : Int), vi (gone : Int), vi (g : Int), vi ((lg.toNat : Nat) : Int), vi ((orN p (rShB D s gone g lg) : Nat) : Int), vi (p : Int), vi ((cntg (dB D) s p g : Nat) : Int), vi (l : Int)] [vi y, vi ((cntg (dB D) s p g : Nat) : Int), vi (p : Int), vi (zand ((lash s p (dT D) : Nat) : Int) (zxor (gone : Int) (-1))), vr 1835, vi ((orN p (rShB D s gone g lg) : Nat) : Int)] (z_cfg t, I1, J) Q := by
      intro y hy
      subst hy
      refine b243_118 ?_
      rw [zandn_n (by omega) (by omega)]
      refine c223 (by omega) (fun d' _ => k223 rfl rfl rfl rfl (by omega) hV (by omega) (by omega) (by omega) hl1 (fun I2 hF2 hV2 => ?_))
      have g1 : orN p (rShB D s gone g lg) < 2 ^ 12 := orN_lt (fun i _ => dBars_lt hD _ _ _ _)
      have e : dBarR D (ndiff (lash s p (dT D)) gone) p (cntg (dB D) s p g) l = rShB D s gone g lg p := by
        unfold rShB
        rw [← hl, dBarR_sh (by omega)]
      have g2 : rShB D s gone g lg p < 4096 := dBars_lt hD _ _ _ _
      refine b243_121 ?_
      rw [e, zor_n (by omega) (by omega)]
      exact ih (p + 1) I2 _ _ (by omega) (hF.tr hF2) hV2 (FR.w hw hF2)
    refine b243_100 ⟨⟨by omega, by omega⟩, fun c => fin 0 (by omega), fun c => fin 1 (by omega)⟩
theorem k243 {x1 x2 x3 x4 w : Int} {s r gone g : Nat} {lg : Bool} (e1 : x1 = r) (e2 : x2 = gone) (e3 : x3 = g) (e4 : x4 = ((lg.toNat : Nat) : Int)) (hd : 4 ≤ d) (hV : RV I D ho lo) (hs : SR s r) (hgo : gone < 256) (hg : g < 4) (hw : I 1835 52 = w) (hwo : wOk D w) (h : ∀ I', FR I I' → RV I' D ho lo → Q (.inl (some (vi ((kp w (orN (dS D) (rShB D s gone g lg)) : Nat) : Int)))) (z_cfg t, I', J)) : Go sc d mt_243 0 [vr 1835, vi x1, vi x2, vi x3, vi x4, vn, vn, vn, vn] [] (z_cfg t, I, J) Q := by
  subst e1 e2 e3 e4
  exact b243_0 (k243loop hd hs hgo hg hwo h (dS D) 0 I vn vn (by omega) (FR.rf I) hV hw)
theorem k248 {x1 w : Int} {S : Nat} (e1 : x1 = S) (hd : 4 ≤ d) (hV : RV I D ho lo) (hS : S ≤ dAll D) (hw : I 1835 52 = w) (hwo : wOk D w) (h : ∀ I', FR I I' → RV I' D ho lo → Q (.inl (some (vi ((kp w (dBars D S (dS D) 1 (dAlong D)) : Nat) : Int)))) (z_cfg t, I', J)) : Go sc d mt_248 0 [vr 1835, vi x1] [] (z_cfg t, I, J) Q := by
  subst e1
  have hD := hV.2.2
  have hS4 := hD.1
  have key : ∀ l : Nat, l = dAlong D → Go sc d mt_248 21 [vr 1835, vi (S : Int)] [vi (l : Int), vi 1, vi (dS D : Int), vi (S : Int), vr 1835, vr 1835] (z_cfg t, I, J) Q := by
    intro l hl
    have hl1 : l ≤ 1 := by rw [hl]; exact dAlong_le
    refine b248_21 (c223 (by omega) (fun d' _ => k223 (q := 1) rfl rfl rfl rfl (by omega) hV hS (Nat.le_refl _) (by omega) hl1 (fun I2 hF2 hV2 => ?_)))
    rw [← dBarR_ab (q := 1), hl]
    exact b248_24 (c246 (by omega) (fun d' _ => k246 rfl (FR.w hw hF2) hwo hD (dBars_lt hD _ _ _ _) (b248_27 (h I2 hF2 hV2))))
  refine b248_0 ?_
  rw [hV.1.1, hV.1.2.2.2.2.1]
  unfold dAlong at key
  exact ⟨lamp_in hD, fun c => key 0 (by rw [if_pos c]), fun c => key 1 (by rw [if_neg c])⟩
end
