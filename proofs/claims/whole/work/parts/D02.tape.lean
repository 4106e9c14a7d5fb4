/-! ===== the tape, both sides; the class's text between calls ===== -/
def byN (y : Int) : Nat := (Int32.ofInt y).toBitVec.toNat % 256
theorem byt (y : Int) : byN y < 256 ∧ zand y 255 = (byN y : Int) ∧ znb (z2b y) = sgn (byN y) := by
  have hl : byN y < 256 := Nat.mod_lt _ (by decide)
  refine ⟨hl, ?_, ?_⟩
  · refine zval ?_ (by omega)
    rw [Int32.toBitVec_and, BitVec.toNat_and, show (Int32.ofInt 255).toBitVec.toNat = 2 ^ 8 - 1 from rfl, Nat.and_two_pow_sub_one_eq_mod]
    rfl
  · have e1 : znb (z2b y) = (Int32.ofInt y).toInt8.toInt := by
      show ((Int32.ofInt ((Int32.ofInt y).toInt8.toInt32).toInt).toInt8.toInt32).toInt = _
      rw [Int32.ofInt_toInt, Int8.toInt8_toInt32, Int8.toInt_toInt32]
    rw [e1, ← Int8.toInt_toBitVec, Int32.toBitVec_toInt8, BitVec.toInt_eq_toNat_cond, BitVec.signExtend_eq_setWidth_of_le _ (by decide), BitVec.toNat_setWidth]
    show (if 2 * byN y < 2 ^ 8 then ((byN y : Nat) : Int) else ((byN y : Nat) : Int) - ((2 ^ 8 : Nat) : Int)) = _
    unfold sgn
    by_cases c : byN y < 128
    · rw [if_pos c, if_pos (by omega)]
    · rw [if_neg c, if_neg (by omega)]
      rfl
def lay1 (B : Nat → Nat) (p : Nat) (y : Int) : Nat → Nat := fup B p (byN y)
def lay4 (B : Nat → Nat) (p : Nat) (x : Int) : Nat → Nat := lay1 (lay1 (lay1 (lay1 B p (zshr x 24)) (p + 1) (zshr x 16)) (p + 2) (zshr x 8)) (p + 3) (zshr x 0)
def lay20 (B : Nat → Nat) (p : Nat) (a b c d e : Int) : Nat → Nat := lay4 (lay4 (lay4 (lay4 (lay4 B p a) (p + 4) b) (p + 8) c) (p + 12) d) (p + 16) e
section
variable {sc : mS} {d : Nat} {t : zT} {I J I' J' : Nat → Nat → Int} {Q : zR → zW → Prop} {s : sT} {n : Nat} {D : tD} {B : Nat → Nat}
theorem CB.lay {p : Nat} {y v : Int} (h : CB I B) (hp : p < 700) : CB (z_u (z_u I 85 p (znb (z2b y))) 42 1 v) (lay1 B p y) := by
  intro i hi
  have hb := byt y
  rw [zu_ne (by decide), zu_at]
  unfold lay1
  by_cases c : i = p
  · rw [if_pos c, c, fup_y]; exact ⟨hb.2.2, hb.1⟩
  · rw [if_neg c, fup_n c]; exact h i hi
theorem RBy.lay {p : Nat} {y v : Int} (h : RBy I B) (hp : p < 700) : RBy (z_u (z_u I 2196 p (zand y 255)) 1835 18 v) (lay1 B p y) := by
  intro i hi
  have hb := byt y
  rw [zu_ne (by decide), zu_at]
  unfold lay1
  by_cases c : i = p
  · rw [if_pos c, c, fup_y]; exact ⟨hb.2.1, hb.1⟩
  · rw [if_neg c, fup_n c]; exact h i hi
def tF1 (I I' : Nat → Nat → Int) : Prop := (∀ a, ¬ a = 42 → ¬ a = 85 → I' a = I a) ∧ ∀ k, ¬ k = 1 → I' 42 k = I 42 k
theorem tF1.tr {I1 I2 : Nat → Nat → Int} (h : tF1 I I1) (h' : tF1 I1 I2) : tF1 I I2 := ⟨fun a h1 h2 => (h'.1 a h1 h2).trans (h.1 a h1 h2), fun k hk => (h'.2 k hk).trans (h.2 k hk)⟩
theorem tF1.u {p : Nat} {v v' : Int} : tF1 I (z_u (z_u I 85 p v) 42 1 v') := ⟨fun a h1 h2 => by rw [zu_ne h1, zu_ne h2], fun k hk => by rw [zu_nk hk, zu_ne (by decide)]⟩
theorem k20 {x : Int} {p : Nat} (hB : CB I B) (h1 : I 42 1 = (p : Int)) (hp : p + 4 ≤ 700) (hq : ∀ (I' : Nat → Nat → Int), tF1 I I' → I' 42 1 = ((p + 4 : Nat) : Int) → CB I' (lay4 B p x) → Q (.inl none) (z_cfg t, I', J)) : Go sc d mt_20 0 [vr 42, vi x, vn] [] (z_cfg t, I, J) Q := by
  have step : ∀ (k : Int) (p : Nat) (I1 : Nat → Nat → Int) (B1 : Nat → Nat), inR k → 0 ≤ k → p < 700 → CB I1 B1 → I1 42 1 = (p : Int) → (∀ (I2 : Nat → Nat → Int), tF1 I1 I2 → I2 42 1 = ((p + 1 : Nat) : Int) → CB I2 (lay1 B1 p (zshr x k)) → Go sc d mt_20 3 [vr 42, vi x, vi (k + (-8))] [] (z_cfg t, I2, J) Q) → Go sc d mt_20 3 [vr 42, vi x, vi k] [] (z_cfg t, I1, J) Q := by
    intro k p I1 B1 hk hk0 hp1 hB1 e1 hg
    refine b20_3 ?_
    rw [e1, Int.toNat_natCast, show (p : Int) + 1 = ((p + 1 : Nat) : Int) by omega]
    exact ⟨hk, fun z => by omega, fun _ => ⟨⟨by omega, by omega⟩, fun _ => ⟨⟨by omega, by omega⟩, hg _ tF1.u (zu_same _ _ _ _) (hB1.lay hp1)⟩, fun z => by omega⟩⟩
  refine b20_0 (step 24 p I B ⟨by decide, by decide⟩ (by decide) (by omega) hB h1 (fun I1 f1 e1 B1 => ?_))
  refine step 16 (p + 1) I1 _ ⟨by decide, by decide⟩ (by decide) (by omega) B1 e1 (fun I2 f2 e2 B2 => ?_)
  refine step 8 (p + 2) I2 _ ⟨by decide, by decide⟩ (by decide) (by omega) B2 e2 (fun I3 f3 e3 B3 => ?_)
  refine step 0 (p + 3) I3 _ ⟨by decide, by decide⟩ (by decide) (by omega) B3 e3 (fun I4 f4 e4 B4 => ?_)
  exact b20_3 ⟨⟨by decide, by decide⟩, fun _ => hq I4 (((f1.tr f2).tr f3).tr f4) e4 B4, fun z => absurd (by decide) z⟩
def tF2 (I I' : Nat → Nat → Int) : Prop := (∀ a, ¬ a = 1835 → ¬ a = 2196 → I' a = I a) ∧ ∀ k, ¬ k = 18 → I' 1835 k = I 1835 k
theorem tF2.tr {I1 I2 : Nat → Nat → Int} (h : tF2 I I1) (h' : tF2 I1 I2) : tF2 I I2 := ⟨fun a h1 h2 => (h'.1 a h1 h2).trans (h.1 a h1 h2), fun k hk => (h'.2 k hk).trans (h.2 k hk)⟩
theorem tF2.u {p : Nat} {v v' : Int} : tF2 I (z_u (z_u I 2196 p v) 1835 18 v') := ⟨fun a h1 h2 => by rw [zu_ne h1, zu_ne h2], fun k hk => by rw [zu_nk hk, zu_ne (by decide)]⟩
theorem k187 {x : Int} {p : Nat} (hB : RBy I B) (h1 : I 1835 18 = (p : Int)) (hp : p + 4 ≤ 700) (hq : ∀ (I' : Nat → Nat → Int), tF2 I I' → I' 1835 18 = ((p + 4 : Nat) : Int) → RBy I' (lay4 B p x) → Q (.inl none) (z_cfg t, I', J)) : Go sc d mt_187 0 [vr 1835, vi x, vn] [] (z_cfg t, I, J) Q := by
  have step : ∀ (k : Int) (p : Nat) (I1 : Nat → Nat → Int) (B1 : Nat → Nat), inR k → 0 ≤ k → p < 700 → RBy I1 B1 → I1 1835 18 = (p : Int) → (∀ (I2 : Nat → Nat → Int), tF2 I1 I2 → I2 1835 18 = ((p + 1 : Nat) : Int) → RBy I2 (lay1 B1 p (zshr x k)) → Go sc d mt_187 3 [vr 1835, vi x, vi (k + (-8))] [] (z_cfg t, I2, J) Q) → Go sc d mt_187 3 [vr 1835, vi x, vi k] [] (z_cfg t, I1, J) Q := by
    intro k p I1 B1 hk hk0 hp1 hB1 e1 hg
    refine b187_3 ?_
    rw [e1, Int.toNat_natCast, show (p : Int) + 1 = ((p + 1 : Nat) : Int) by omega]
    exact ⟨hk, fun z => by omega, fun _ => ⟨⟨by omega, by omega⟩, hg _ tF2.u (zu_same _ _ _ _) (hB1.lay hp1)⟩⟩
  refine b187_0 (step 24 p I B ⟨by decide, by decide⟩ (by decide) (by omega) hB h1 (fun I1 f1 e1 B1 => ?_))
  refine step 16 (p + 1) I1 _ ⟨by decide, by decide⟩ (by decide) (by omega) B1 e1 (fun I2 f2 e2 B2 => ?_)
  refine step 8 (p + 2) I2 _ ⟨by decide, by decide⟩ (by decide) (by omega) B2 e2 (fun I3 f3 e3 B3 => ?_)
  refine step 0 (p + 3) I3 _ ⟨by decide, by decide⟩ (by decide) (by omega) B3 e3 (fun I4 f4 e4 B4 => ?_)
  exact b187_3 ⟨⟨by decide, by decide⟩, fun _ => hq I4 (((f1.tr f2).tr f3).tr f4) e4 B4, fun z => absurd (by decide) z⟩
theorem CIv.tp {B' : Nat → Nat} {p : Nat} (h : CIv t I s n) (f : tF1 I I') (e1 : I' 42 1 = (p : Int)) (hB : CB I' B') : CIv t I' (sD s, B', p, sFp s, (sMk s, sPs s, sPm s, sLw s), sK s) n := by
  obtain ⟨⟨h1, h2, h3⟩, ⟨h4, h5, h6⟩, ⟨h7, h8⟩, h9, h10, h11⟩ := h
  have mdx : ∀ b, I' (z_md b) = I (z_md b) := fun b => f.1 _ (by have := zmd_or b; omega) (by have := zmd_or b; omega)
  have mfx : ∀ b k, I' (z_mf b k) = I (z_mf b k) := fun b k => by
    have A : ∀ k, k < 17 → ∀ b : Bool, ¬ z_mf b k = 42 ∧ ¬ z_mf b k = 85 := by decide
    by_cases hk : k < 17
    · exact f.1 _ (A k hk b).1 (A k hk b).2
    · rw [zmf_0 b (by omega)]; exact f.1 0 (by decide) (by decide)
  have hi : ∀ a, 100 < a → I' a = I a := fun a ha => f.1 a (by omega) (by omega)
  have cd : ∀ b, CD b I (sD s) → CD b I' (sD s) := fun b c => c.fr (mdx b) (mfx b)
  have hU : RU t I' (sD s) := by
    refine ⟨cd _ h1.2.2.1.1, ?_, ?_, h1.2.2.1.2.2.2⟩
    · intro S hS
      rw [hi 916 (by decide), hi 948 (by decide), hi 980 (by decide), hi 1012 (by decide)]
      exact h1.2.2.1.2.1 S hS
    · intro S p q l z1 z2 z3 z4 z5
      rw [hi 884 (by decide)]
      exact h1.2.2.1.2.2.1 S p q l z1 z2 z3 z4 z5
  refine ⟨⟨⟨h1.1, h1.2.1, hU, fun b i hi2 => ?_⟩, h2, fun b => (h3 b).fr (mfx b 6) (mfx b 7) (by rw [mfx b 14]) (by rw [mdx b]; exact (h3 b).2.2)⟩, ⟨hB, e1, (f.2 2 (by decide)).trans h6⟩, ⟨h7.gen rfl rfl rfl rfl (fun _ => rfl) (fun _ c => cd _ c) (fun a ha => hi a (by omega)), h8.to (hi 1481 (by decide))⟩, h9.to (hi 1510 (by decide)), h10.to (hi 1672 (by decide)) (hi 1716 (by decide)), h11.to (hi 1732 (by decide)) (hi 1780 (by decide)) (hi 1812 (by decide))⟩
  rw [mfx b 6, mfx b 7]
  exact h1.2.2.2 b i hi2
theorem c_feed {x1 x2 x3 x4 x5 : Int} (hd : 2 ≤ d) (ht : sTp s ≤ 700) (h : CIv t I s n) (h0 : 680 < sTp s → CK1 sc d t I J s n Q (-1)) (h1 : ¬ 680 < sTp s → CK1 sc d t I J (sD s, lay20 (sB s) (sTp s) x1 x2 x3 x4 x5, sTp s + 20, sFp s, (sMk s, sPs s, sPm s, sLw s), sK s) n Q ((sTp s + 20 : Nat) : Int)) : Go sc d mt_19 0 [vr 42, vi x1, vi x2, vi x3, vi x4, vi x5] [] (z_cfg t, I, J) Q := by
  have e1 := h.2.1.2.1
  refine b19_0 ?_
  rw [e1]
  refine ⟨⟨by omega, by omega⟩, fun z => (h0 (by omega)).go h, fun z => ?_⟩
  have z : ¬ 680 < sTp s := by omega
  refine c20 (by omega) (fun d' _ => k20 h.2.1.1 e1 (by omega) (fun I1 f1 g1 B1 => b19_17 ?_))
  refine c20 (by omega) (fun d' _ => k20 B1 g1 (by omega) (fun I2 f2 g2 B2 => b19_22 ?_))
  refine c20 (by omega) (fun d' _ => k20 B2 g2 (by omega) (fun I3 f3 g3 B3 => b19_27 ?_))
  refine c20 (by omega) (fun d' _ => k20 B3 g3 (by omega) (fun I4 f4 g4 B4 => b19_33 ?_))
  refine c20 (by omega) (fun d' _ => k20 B4 g4 (by omega) (fun I5 f5 g5 B5 => b19_39 ?_))
  have f15 := (((f1.tr f2).tr f3).tr f4).tr f5
  rw [g5]
  exact h1 z t I5 J (h.tp f15 g5 B5) (fun a a1 a2 => ⟨f15.1 a (by omega) (by omega), rfl⟩) (tRo.rf t)
/-- behind a text -/
def sNew (s : sT) (D : tD) : sT := (D, sB s, 0, -1, (0, fun _ => dStart D, fun _ => 0, -1), none)
theorem c_text {x1 : Int} (hd : 92 ≤ d) (hP : PVs s) (hx : inR x1) (h : CIv t I s n) (h0 : (x1 < 0 ∨ (sTp s : Int) < x1) → CK0 t I J s n Q 1) (hb : ∀ (m : Nat) (e : Nat × Nat), x1 = m → m ≤ sTp s → (tAll (sB s) m).1 = .inr e → (1 ≤ e.1 ∧ e.1 ≤ 5) → e.2 ≤ 700 → CK1 sc d t I J (sD s, sB s, 0, (e.2 : Int), (sMk s, sPs s, sPm s, sLw s), sK s) n Q (e.1 : Int)) (hg : ∀ (m q : Nat), x1 = m → m ≤ sTp s → (tAll (sB s) m).1 = .inl q → CK1 sc d t I J (sNew s (tEnd (tAll (sB s) m))) n Q 0) : Go sc d mt_96 0 [vr 42, vi x1, vn] [] (z_cfg t, I, J) Q := by
  have ht := hP.2.2.2.1
  by_cases c : x1 < 0 ∨ (sTp s : Int) < x1
  · exact k96t hx h.2.1.2.1 ht c ((h0 c).go h)
  · obtain ⟨m, hm⟩ : ∃ m : Nat, x1 = m := ⟨x1.toNat, by omega⟩
    have hI := h
    obtain ⟨⟨h1, h2, h3⟩, ⟨h4, h5, h6⟩, ⟨h7, h8⟩, h9, h10, h11⟩ := h
    have hU := h1.2.2.1
    have hz : 0 ≤ dAll (sD s) := Nat.zero_le _
    have w0 := hU.2.1 0 hz
    have z0 : sm (dT (sD s)) (fun _ => 1) 0 = 0 ∧ sm (dT (sD s)) (dRo (sD s)) 0 = 0 ∧ sm (dT (sD s)) (dWt (sD s)) 0 = 0 ∧ mx (dT (sD s)) (dMi (sD s)) 0 = 0 := by
      have A : ∀ (k : Nat) (w : Nat → Nat), sm k w 0 = 0 := by
        intro k w
        induction k with
        | zero => rfl
        | succ k ih =>
          show sm k w 0 + (if (0 : Nat).testBit k then w k else 0) = 0
          rw [ih, Nat.zero_testBit]
          rfl
      have A2 : ∀ (k : Nat) (w : Nat → Nat), mx k w 0 = 0 := by
        intro k w
        induction k with
        | zero => rfl
        | succ k ih =>
          show max (mx k w 0) (if (0 : Nat).testBit k then w k else 0) = 0
          rw [ih, Nat.zero_testBit]
          rfl
      exact ⟨A _ _, A _ _, A _ _, A2 _ _⟩
    rw [z0.1, z0.2.1, z0.2.2.1, z0.2.2.2] at w0
    have h18 : I 1812 0 = 0 := by
      have g := (h11.2.2 0 (Nat.zero_le _)).2
      rw [g, hP.1.2.2.1]
      rfl
    have hbn : ∀ b : Bool, ¬ b = (!b) := by decide
    have tb := h1.2.1
    have zm := zmd_or (!t_b t)
    have zmb := zmd_or (t_b t)
    have hreg : ∀ a, (z_md (t_b t) ≤ a ∧ a < z_md (t_b t) + 352) → ¬ a = 805 ∧ ¬ a = 42 ∧ ¬ (z_md (!t_b t) ≤ a ∧ a < z_md (!t_b t) + 352) := by
      intro a ha
      cases hb : t_b t
      · rw [hb] at ha
        have e1 : z_md false = 98 := rfl
        have e2 : z_md (!false) = 450 := rfl
        omega
      · rw [hb] at ha
        have e1 : z_md true = 450 := rfl
        have e2 : z_md (!true) = 98 := rfl
        omega
    refine k96 hm hd h5 (by omega) ht h4 (h3 _) w0 h18 (fun e he I' f S' g1 g2 g3 g4 => ?_) (fun q hq I' f fk S' g1 g2 U' k1 k2 k3 k4 P' => ?_)
    · -- a fault
      have own : ∀ a, (z_md (t_b t) ≤ a ∧ a < z_md (t_b t) + 352) → I' a = I a := fun a ha => f a (hreg a ha).1 (hreg a ha).2.1 (hreg a ha).2.2
      have ownf : ∀ k, I' (z_mf (t_b t) k) = I (z_mf (t_b t) k) := fun k => by
        by_cases hk : vfd k = true
        · exact own _ (zrg _ hk).1
        · have A : ∀ k, k < 17 → ∀ b : Bool, vfd k = false → z_mf b k = 0 := by decide
          have e0 : z_mf (t_b t) k = 0 := by
            by_cases h17 : k < 17
            · exact A k h17 _ (b_no hk)
            · exact zmf_0 _ (by omega)
          rw [e0]
          exact f 0 (by decide) (by decide) (by omega)
      have cd : CD (t_b t) I (sD s) → CD (t_b t) I' (sD s) := fun c => c.fr (own _ (by omega)) ownf
      have hi : ∀ a, 805 < a → I' a = I a := fun a ha => f a (by omega) (by omega) (by omega)
      have S2 : ∀ b, SN b I' := fun b => by
        by_cases hbb : b = t_b t
        · subst hbb
          exact (h3 _).fr (ownf 6) (ownf 7) (by rw [ownf 14]) (by rw [own _ (by omega)]; exact (h3 _).2.2)
        · have : b = !t_b t := by
            cases b <;> cases hq : t_b t <;> first | rfl | (exact absurd hq.symm hbb)
          rw [this]
          exact S'
      have hU' : RU (t_seb t (!t_b t)) I' (sD s) := by
        refine ⟨?_, ?_, ?_, hU.2.2.2⟩
        · show CD (t_rb t) I' (sD s)
          rw [← tb]
          exact cd (by rw [tb]; exact hU.1)
        · intro S hS
          rw [hi 916 (by decide), hi 948 (by decide), hi 980 (by decide), hi 1012 (by decide)]
          exact hU.2.1 S hS
        · intro S p q l z1 z2 z3 z4 z5
          rw [hi 884 (by decide)]
          exact hU.2.2.1 S p q l z1 z2 z3 z4 z5
      have hX : TX (t_seb t (!t_b t)) I' (sD s) := by
        refine ⟨(eOk_to (t := t) (t' := t_seb t (!t_b t)) rfl rfl rfl).1 h1.1, tb, hU', fun b i hi2 => ?_⟩
        have g := (S2 b).1 i hi2
        omega
      refine hb m e hm (by omega) he g3 g4 (t_seb t (!t_b t)) I' J ⟨⟨hX, h2, S2⟩, ⟨h4.to (f 85 (by decide) (by decide) (by omega)), g1, g2⟩, ⟨?_, h8.to (hi 1481 (by decide))⟩, h9.to (hi 1510 (by decide)), h10.to (hi 1672 (by decide)) (hi 1716 (by decide)), h11.to (hi 1732 (by decide)) (hi 1780 (by decide)) (hi 1812 (by decide))⟩ (fun a a1 a2 => ⟨hi a (by omega), rfl⟩) (tRo.to rfl rfl rfl)
      refine h7.gen rfl rfl rfl rfl (fun _ => rfl) (fun z c => ?_) (fun a ha => hi a (by omega))
      obtain ⟨-, -, -, -, p5⟩ := h7
      rcases p5 with y | ⟨-, -, hgb, -, -⟩
      · rw [y] at z; cases z
      · rw [hgb, ← tb] at c ⊢
        exact cd c
    · -- a new text
      have hi : ∀ a, 1812 ≤ a → I' a = I a := fun a ha => f a (by omega) (by omega) (by omega) (by omega) (by omega) (by omega) (by omega) (by omega) (by omega) (by omega) (by omega) (by omega) (by omega) (by omega)
      have own : ∀ a, (z_md (t_b t) ≤ a ∧ a < z_md (t_b t) + 352) → I' a = I a := fun a ha => f a (hreg a ha).1 (hreg a ha).2.1 (hreg a ha).2.2 (by omega) (by omega) (by omega) (by omega) (by omega) (by omega) (by omega) (by omega) (by omega) (by omega) (by omega)
      have ownf : ∀ k, vfd k = true → I' (z_mf (t_b t) k) = I (z_mf (t_b t) k) := fun k hk => own _ (zrg _ hk).1
      have S2 : ∀ b, SN b I' := fun b => by
        by_cases hbb : b = t_b t
        · subst hbb
          exact (h3 _).fr (ownf 6 (by decide)) (ownf 7 (by decide)) (by rw [ownf 14 (by decide)]) (by rw [own _ (by omega)]; exact (h3 _).2.2)
        · have : b = !t_b t := by
            cases b <;> cases hq : t_b t <;> first | rfl | (exact absurd hq.symm hbb)
          rw [this]
          exact S'
      have hX : TX (t_bt (t_seb t (!t_b t))) I' (tEnd (tAll (sB s) m)) := by
        refine ⟨(eOk_to (t := t) (t' := t_bt (t_seb t (!t_b t))) rfl rfl rfl).1 h1.1, rfl, U', fun b i hi2 => ?_⟩
        have g := (S2 b).1 i hi2
        omega
      refine hg m q hm (by omega) hq (t_bt (t_seb t (!t_b t))) I' J ⟨⟨hX, rfl, S2⟩, ⟨h4.to (f 85 (by decide) (by decide) (by omega) (by decide) (by decide) (by decide) (by decide) (by decide) (by decide) (by decide) (by decide) (by decide) (by decide) (by decide)), g1, g2⟩, ⟨?_, ⟨Or.inl k2.1, Or.inl k2.2.1, Or.inl k2.2.2⟩⟩, ⟨Or.inl k3, ?_⟩, k4, P'⟩ (fun a a1 a2 => ⟨hi a (by omega), rfl⟩) (tRo.to rfl rfl rfl)
      · obtain ⟨p1, p2, p3, p4, -⟩ := h7
        have e1 := (fk 1 (by decide)).1
        have e83 : I' 1283 = I 1283 := f 1283 (by decide) (by decide) (by omega) (by decide) (by decide) (by decide) (by decide) (by decide) (by decide) (by decide) (by decide) (by decide) (by decide) (by decide)
        unfold GP
        rw [e1, e83]
        exact ⟨p1, p2, p3, p4, Or.inl k1⟩
      · rw [(fk 5 (by decide)).2]
        exact h9.2
end
