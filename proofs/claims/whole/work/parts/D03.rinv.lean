/-! ===== between two calls: the reference ===== -/
/-- the graph is well, whatever is asked -/
theorem exS_k {D : tD} {act ho lo k s b p : Nat} (hD : dOk D) (hb : b < dB D) (hp : p < dS D) : ∀ (l : List Nat) (g : gS), (∀ S, S ∈ l → S ≤ dAll D) → gOk D act g → k < gN g → gX g k = s → gOk D act (exS D act ho lo k s b p l g) ∧ k < gN (exS D act ho lo k s b p l g) ∧ gX (exS D act ho lo k s b p l g) k = s := by
  intro l
  induction l with
  | nil => intro g _ h hk e; exact ⟨h, hk, e⟩
  | cons S l ih =>
    intro g hl h hk e
    show gOk D act (exS D act ho lo k s b p l (if okE D act ho lo s b p S = true then addE D g k b p S else g)) ∧ k < gN (exS D act ho lo k s b p l (if okE D act ho lo s b p S = true then addE D g k b p S else g)) ∧ gX (exS D act ho lo k s b p l (if okE D act ho lo s b p S = true then addE D g k b p S else g)) k = s
    by_cases c : okE D act ho lo s b p S = true
    · rw [if_pos c]
      have a := addE_ok (act := act) (ho := ho) (lo := lo) hD h hk hb hp (hl S List.mem_cons_self) (by rw [e]; exact c)
      exact ih _ (fun S hS => hl S (List.mem_cons_of_mem _ hS)) a.1 (Nat.lt_of_lt_of_le hk a.2.1) ((a.2.2.1 k hk).1.trans e)
    · rw [if_neg c]
      exact ih g (fun S hS => hl S (List.mem_cons_of_mem _ hS)) h hk e
theorem exP_k {D : tD} {act ho lo k s b : Nat} (hD : dOk D) (hb : b < dB D) : ∀ (l : List Nat) (g : gS), (∀ p, p ∈ l → p < dS D) → gOk D act g → k < gN g → gX g k = s → gOk D act (exP D act ho lo k s b l g) ∧ k < gN (exP D act ho lo k s b l g) ∧ gX (exP D act ho lo k s b l g) k = s := by
  intro l
  induction l with
  | nil => intro g _ h hk e; exact ⟨h, hk, e⟩
  | cons p l ih =>
    intro g hl h hk e
    have a := exS_k (act := act) (ho := ho) (lo := lo) hD hb (hl p List.mem_cons_self) (List.range' 1 (dAll D)) g (fun S hS => by have := (List.mem_range'_1.mp hS); omega) h hk e
    exact ih _ (fun p hp => hl p (List.mem_cons_of_mem _ hp)) a.1 a.2.1 a.2.2
theorem exB_k {D : tD} {act ho lo k s : Nat} (hD : dOk D) : ∀ (l : List Nat) (g : gS), (∀ b, b ∈ l → b < dB D) → gOk D act g → k < gN g → gX g k = s → gOk D act (exB D act ho lo k s l g) ∧ k < gN (exB D act ho lo k s l g) ∧ gX (exB D act ho lo k s l g) k = s := by
  intro l
  induction l with
  | nil => intro g _ h hk e; exact ⟨h, hk, e⟩
  | cons b l ih =>
    intro g hl h hk e
    have a := exP_k (act := act) (ho := ho) (lo := lo) hD (hl b List.mem_cons_self) (List.range' 0 (dS D)) g (fun p hp => by have := (List.mem_range'_1.mp hp); omega) h hk e
    exact ih _ (fun b hb => hl b (List.mem_cons_of_mem _ hb)) a.1 a.2.1 a.2.2
theorem gRun_k {D : tD} {act ho lo : Nat} (hD : dOk D) : ∀ (f k : Nat) (g : gS), gOk D act g → gOk D act (gRun D act ho lo f k g) := by
  intro f
  induction f with
  | zero => intro k g h; exact h
  | succ f ih =>
    intro k g h
    show gOk D act (if k < gN g ∧ gSp g = false then gRun D act ho lo f (k + 1) (g_f (exK D act ho lo k g) (k + 1)) else g)
    by_cases c : k < gN g ∧ gSp g = false
    · rw [if_pos c]
      refine ih (k + 1) _ ?_
      have a : gOk D act (exK D act ho lo k g) := by
        unfold exK
        split
        · exact (exB_k (act := act) (ho := ho) (lo := lo) hD _ g (fun b hb => by have := (List.mem_range'_1.mp hb); omega) h c.1 rfl).1
        · exact h
      exact a
    · rw [if_neg c]; exact h
theorem gAll_ok {D : tD} {act ho lo : Nat} (hD : dOk D) : gOk D act (gAll D act ho lo) := gRun_k hD 2001 0 _ (g0_ok hD)
def RRd (I : Nat → Nat → Int) (D : tD) : Prop := I 1835 82 = 0 ∨ (rAns D (I 1835 82 - 2) ∧ 1 ≤ I 1835 82 ∧ I 1835 82 ≤ 1026)
def R67 (I : Nat → Nat → Int) (D : tD) : Prop := I 1835 67 = 0 ∨ (I 1835 67 = 1 ∧ RK I D (dHo D 0) (dLo D 0))
def RIv (I : Nat → Nat → Int) (s : sT) : Prop := (RV I (sD s) (dHo (sD s) 0) (dLo (sD s) 0) ∧ I 1835 52 = -1) ∧ (R67 I (sD s) ∧ LK I (sD s) ∧ SK I (sD s) ∧ RRd I (sD s)) ∧ KXo I (sD s) (sK s) ∧ PR I (sMk s) (sPs s) (sPm s) (sLw s) ∧ RBy I (sB s) ∧ I 1835 18 = (sTp s : Int) ∧ I 1835 20 = sFp s
/-- what the reference's calls leave alone -/
def rFr (I J I' J' : Nat → Nat → Int) : Prop := ∀ a, (a < 1835 ∨ 3360 < a) → I' a = I a ∧ J' a = J a
section
variable {sc : mS} {d : Nat} {t : zT} {I J I' J' : Nat → Nat → Int} {Q : zR → zW → Prop} {s : sT} {n : Nat} {D : tD} {ho lo : Nat}
theorem RK.gen (h : RK I D ho lo) (e : ∀ k, k = 54 ∨ k = 55 ∨ k = 66 → I' 1835 k = I 1835 k) (f : ∀ a, (2676 ≤ a ∧ a ≤ 2932) → I' a = I a) : RK I' D ho lo := ⟨⟨h.1.1.to e (fun a ha => f a (by omega)), h.1.2.1, fun z i hi => by rw [f 2708 (by decide)]; exact h.1.2.2 z i hi⟩, fun z k hk => by rw [f 2772 (by decide)]; exact h.2 z k hk⟩
theorem R67.gen (h : R67 I D) (e : ∀ k, k = 54 ∨ k = 55 ∨ k = 66 ∨ k = 67 → I' 1835 k = I 1835 k) (f : ∀ a, (2676 ≤ a ∧ a ≤ 2932) → I' a = I a) : R67 I' D := by
  unfold R67
  rw [e 67 (by decide)]
  exact h.elim Or.inl (fun z => Or.inr ⟨z.1, z.2.gen (fun k hk => e k (by omega)) f⟩)
theorem LK.to (h : LK I D) (e : ∀ k, k = 78 ∨ k = 79 ∨ k = 80 → I' 1835 k = I 1835 k) : LK I' D := by
  unfold LK
  rw [e 78 (by decide), e 79 (by decide), e 80 (by decide)]
  exact h
theorem SK.to (h : SK I D) (e : I' 3252 = I 3252) : SK I' D := by unfold SK; rw [e]; exact h
theorem RRd.to (h : RRd I D) (e : I' 1835 82 = I 1835 82) : RRd I' D := by unfold RRd; rw [e]; exact h
theorem KXo.to {K : Option (List (Nat × Nat × Nat))} (h : KXo I D K) (e : ∀ k, k = 70 ∨ k = 71 → I' 1835 k = I 1835 k) (f : ∀ a, (3060 ≤ a ∧ a ≤ 3188) → I' a = I a) : KXo I' D K := by
  cases K with
  | none =>
    show I' 1835 70 = -1
    rw [e 70 (by decide)]
    exact h
  | some l =>
    refine ⟨?_, h.2⟩
    have h1 : KX I D l := h.1
    unfold KX at h1 ⊢
    rw [e 70 (by decide), e 71 (by decide), f 3060 (by decide), f 3092 (by decide), f 3124 (by decide), f 3156 (by decide), f 3188 (by decide)]
    exact h1
theorem PR.to {mk : Nat} {ps pm : Nat → Nat} {lw : Int} (h : PR I mk ps pm lw) (e : ∀ k, k = 84 ∨ k = 85 → I' 1835 k = I 1835 k) (f : ∀ a, a = 3316 ∨ a = 3348 → I' a = I a) : PR I' mk ps pm lw := by
  unfold PR
  rw [e 84 (by decide), e 85 (by decide), f 3316 (by decide), f 3348 (by decide)]
  exact h
theorem RBy.to {B : Nat → Nat} (h : RBy I B) (e : I' 2196 = I 2196) : RBy I' B := by unfold RBy; rw [e]; exact h
theorem rFr.rf (I J : Nat → Nat → Int) : rFr I J I J := fun _ _ => ⟨rfl, rfl⟩
theorem rFr.of (f : ∀ a, (a < 1835 ∨ 3360 < a) → I' a = I a) : rFr I J I' J := fun a ha => ⟨f a ha, rfl⟩
/-- all but the laws' rows, the graph, and some fields is as it was -/
theorem RIv.gen (h : RIv I s) (hV : RV I' (sD s) (dHo (sD s) 0) (dLo (sD s) 0)) (h52 : I' 1835 52 = -1) (h67 : R67 I' (sD s)) (hL : LK I' (sD s)) (hS : SK I' (sD s)) (hR : RRd I' (sD s)) (hK : KXo I' (sD s) (sK s)) (e : ∀ k, k = 18 ∨ k = 20 ∨ k = 84 ∨ k = 85 → I' 1835 k = I 1835 k) (f : ∀ a, a = 2196 ∨ a = 3316 ∨ a = 3348 → I' a = I a) : RIv I' s := by
  obtain ⟨⟨-, -⟩, ⟨-, -, -, -⟩, -, h8, h9, h10, h11⟩ := h
  exact ⟨⟨hV, h52⟩, ⟨h67, hL, hS, hR⟩, hK, h8.to (fun k hk => e k (by omega)) (fun a ha => f a (by omega)), h9.to (f 2196 (by decide)), (e 18 (by decide)).trans h10, (e 20 (by decide)).trans h11⟩
theorem RIv.f0 {v : Int} (h : RIv I s) : RIv (z_u I 1835 0 v) s := by
  have g := h
  obtain ⟨⟨h1, h2⟩, ⟨h3, h4, h5, h6⟩, h7, h8, h9, h10, h11⟩ := h
  have e : ∀ k, ¬ k = 0 → z_u I 1835 0 v 1835 k = I 1835 k := fun k hk => zu_nk hk
  have f : ∀ a, ¬ a = 1835 → z_u I 1835 0 v a = I a := fun a ha => zu_ne ha
  exact g.gen h1.f0 ((e 52 (by decide)).trans h2) (h3.gen (fun k hk => e k (by omega)) (fun a ha => f a (by omega))) (h4.to (fun k hk => e k (by omega))) (h5.to (f 3252 (by decide))) (h6.to (e 82 (by decide))) (h7.to (fun k hk => e k (by omega)) (fun a ha => f a (by omega))) (fun k hk => e k (by omega)) (fun a ha => f a (by omega))
theorem RIv.fr (h : RIv I s) (hf : FR I I') (hV : RV I' (sD s) (dHo (sD s) 0) (dLo (sD s) 0)) : RIv I' s := by
  have g := h
  obtain ⟨⟨h1, h2⟩, ⟨h3, h4, h5, h6⟩, h7, h8, h9, h10, h11⟩ := h
  have f : ∀ a, ¬ a = 2612 → ¬ a = 2644 → I' a = I a := hf
  have e : ∀ k, I' 1835 k = I 1835 k := fun k => by rw [f 1835 (by decide) (by decide)]
  exact g.gen hV ((e 52).trans h2) (h3.gen (fun k hk => e k) (fun a ha => f a (by omega) (by omega))) (h4.to (fun k hk => e k)) (h5.to (f 3252 (by decide) (by decide))) (h6.to (e 82)) (h7.to (fun k hk => e k) (fun a ha => f a (by omega) (by omega))) (fun k hk => e k) (fun a ha => f a (by omega) (by omega))
theorem RIv.fz (h : RIv I s) (hf : FZ I I') (hV : RV I' (sD s) (dHo (sD s) 0) (dLo (sD s) 0)) (z67 : I' 1835 67 = 1) (hK : RK I' (sD s) (dHo (sD s) 0) (dLo (sD s) 0)) : RIv I' s := by
  have g := h
  obtain ⟨⟨h1, h2⟩, ⟨h3, h4, h5, h6⟩, h7, h8, h9, h10, h11⟩ := h
  obtain ⟨f, e, e52⟩ := hf
  have e' : ∀ k, 67 < k ∨ k < 52 → I' 1835 k = I 1835 k := fun k hk => e k (by omega) (by omega) (by omega) (by omega) (by omega)
  have f' : ∀ a, 3028 < a ∨ a = 2196 → I' a = I a := fun a ha => f a (by omega) (by omega) (by omega) (by omega) (by omega) (by omega) (by omega) (by omega) (by omega) (by omega) (by omega) (by omega) (by omega) (by omega)
  exact g.gen hV (e52.elim id (fun z => z.trans h2)) (Or.inr ⟨z67, hK⟩) (h4.to (fun k hk => e' k (by omega))) (h5.to (f' 3252 (by decide))) (h6.to (e' 82 (by decide))) (h7.to (fun k hk => e' k (by omega)) (fun a ha => f' a (by omega))) (fun k hk => e' k (by omega)) (fun a ha => f' a (by omega))
def RK1 (t : zT) (I J : Nat → Nat → Int) (s' : sT) (Q : zR → zW → Prop) (A : Int) : Prop := ∀ (I' J' : Nat → Nat → Int), RIv I' s' → rFr I J I' J' → I' 1835 0 = 0 → Q (.inl (some (vi A))) (z_cfg t, I', J')
def RK0 (t : zT) (I J : Nat → Nat → Int) (s : sT) (Q : zR → zW → Prop) : Prop := ∀ (I' J' : Nat → Nat → Int), RIv I' s → rFr I J I' J' → I' 1835 0 = 1 → Q (.inl (some (vi 0))) (z_cfg t, I', J')
theorem RK0.go (h : RIv I s) (k : RK0 t I J s Q) : Q (.inl (some (vi 0))) (z_cfg t, z_u (z_u I 1835 0 0) 1835 0 1, J) := k _ _ h.f0.f0 (rFr.of (fun a ha => by rw [zu_ne (by omega), zu_ne (by omega)])) (zu_same _ _ _ _)
theorem RK1.go {A : Int} (h : RIv I s) (k : RK1 t I J s Q A) : Q (.inl (some (vi A))) (z_cfg t, z_u I 1835 0 0, J) := k _ _ h.f0 (rFr.of (fun a ha => zu_ne (by omega))) (zu_same _ _ _ _)
theorem PVs.hl (hP : PVs s) : dHo (sD s) 0 < 2147483648 ∧ dLo (sD s) 0 < 2147483648 := by
  have := hP.2.2.1
  omega
theorem r_count {x1 : Int} (hd : 1 ≤ d) (h : RIv I s) (hx : inR x1) (h0 : ¬ (0 ≤ x1 ∧ x1 ≤ 6) → RK0 t I J s Q) (h1 : (0 ≤ x1 ∧ x1 ≤ 6) → RK1 t I J s Q (cntA (sD s) (sMk s) (sTp s) x1)) : Go sc d mt_233 0 [vr 1835, vi x1] [] (z_cfg t, I, J) Q :=
  k233 hx hd h.1.1.1 h.1.1.2.2 h.2.2.2.1.1 h.2.2.2.2.2.1 (fun z => (h0 z).go h) (fun z => (h1 z).go h)
theorem r_thing {x1 x2 : Int} (hd : 1 ≤ d) (h : RIv I s) (hx : inR x1) (hx2 : inR x2) (h0 : ¬ ((0 ≤ x1 ∧ x1 < dT (sD s)) ∧ (0 ≤ x2 ∧ x2 ≤ 2)) → RK0 t I J s Q) (h1 : ((0 ≤ x1 ∧ x1 < dT (sD s)) ∧ (0 ≤ x2 ∧ x2 ≤ 2)) → RK1 t I J s Q (thA (sD s) x1 x2)) : Go sc d mt_234 0 [vr 1835, vi x1, vi x2] [] (z_cfg t, I, J) Q :=
  k234 hx hx2 hd h.1.1.1 h.1.1.2.2 (fun z => (h0 z).go h) (fun z => (h1 z).go h)
theorem r_boat {x1 x2 : Int} (hd : 1 ≤ d) (h : RIv I s) (hx : inR x1) (hx2 : inR x2) (h0 : ¬ ((0 ≤ x1 ∧ x1 < dB (sD s)) ∧ (0 ≤ x2 ∧ x2 ≤ 2)) → RK0 t I J s Q) (h1 : ((0 ≤ x1 ∧ x1 < dB (sD s)) ∧ (0 ≤ x2 ∧ x2 ≤ 2)) → RK1 t I J s Q (btA (sD s) x1 x2)) : Go sc d mt_235 0 [vr 1835, vi x1, vi x2] [] (z_cfg t, I, J) Q :=
  k235 hx hx2 hd h.1.1.1 h.1.1.2.2 (fun z => (h0 z).go h) (fun z => (h1 z).go h)
theorem r_water {x1 x2 : Int} (hd : 1 ≤ d) (h : RIv I s) (hx : inR x1) (hx2 : inR x2) (h0 : ¬ ((0 ≤ x1 ∧ x1 < dS (sD s)) ∧ (0 ≤ x2 ∧ x2 < dS (sD s))) → RK0 t I J s Q) (h1 : ((0 ≤ x1 ∧ x1 < dS (sD s)) ∧ (0 ≤ x2 ∧ x2 < dS (sD s))) → RK1 t I J s Q (((dFlow (sD s) x1.toNat x2.toNat).toNat : Nat) : Int)) : Go sc d mt_236 0 [vr 1835, vi x1, vi x2] [] (z_cfg t, I, J) Q :=
  k236 hx hx2 hd h.1.1 (fun z => (h0 z).go h) (fun z => (h1 z).go h)
theorem r_bars {x1 x2 x3 : Int} {lb : Bool} (hd : 4 ≤ d) (h : RIv I s) (hx2 : inR x2) (hx3 : inR x3) (h0 : ¬ grpOk (sD s) x2 x3 → RK0 t I J s Q) (h1 : grpOk (sD s) x2 x3 → RK1 t I J s Q ((dBars (sD s) (zand x1 (dAll (sD s) : Int)).toNat x2.toNat x3.toNat lb.toNat : Nat) : Int)) : Go sc d mt_220 0 [vr 1835, vi x1, vi x2, vi x3, vi ((lb.toNat : Nat) : Int)] [] (z_cfg t, I, J) Q :=
  k220 hx2 hx3 hd h.1.1 (fun z => (h0 z).go h) (fun z I' f V => h1 z _ _ (h.f0.fr f V) (rFr.of (fun a ha => by rw [f a (by omega) (by omega), zu_ne (by omega)])) (by rw [f 1835 (by decide) (by decide), zu_same]))
theorem r_safe {x1 x2 : Int} {lb : Bool} (hd : 4 ≤ d) (h : RIv I s) (hx1 : inR x1) (hx2 : inR x2) (h0 : ¬ grpOk (sD s) x1 x2 → RK0 t I J s Q) (h1 : grpOk (sD s) x1 x2 → RK1 t I J s Q ((cSaf (sD s) x1.toNat x2.toNat lb.toNat (dAll (sD s)) : Nat) : Int)) : Go sc d mt_230 0 [vr 1835, vi x1, vi x2, vi ((lb.toNat : Nat) : Int), vn, vn] [] (z_cfg t, I, J) Q :=
  k230 hx1 hx2 hd h.1.1 (fun z => (h0 z).go h) (fun z I' f V => h1 z _ _ (h.f0.fr f V) (rFr.of (fun a ha => by rw [f a (by omega) (by omega), zu_ne (by omega)])) (by rw [f 1835 (by decide) (by decide), zu_same]))
theorem r_alike {x1 : Int} (hd : 5 ≤ d) (h : RIv I s) (hx : inR x1) (h0 : ¬ (0 ≤ x1 ∧ x1 < dT (sD s)) → RK0 t I J s Q) (h1 : (0 ≤ x1 ∧ x1 < dT (sD s)) → RK1 t I J s Q ((alS (sD s) x1.toNat (dT (sD s)) : Nat) : Int)) : Go sc d mt_231 0 [vr 1835, vi x1, vn, vn] [] (z_cfg t, I, J) Q :=
  k231 hx hd h.1.1 (fun z => (h0 z).go h) (fun z I' f V => h1 z _ _ (h.f0.fr f V) (rFr.of (fun a ha => by rw [f a (by omega) (by omega), zu_ne (by omega)])) (by rw [f 1835 (by decide) (by decide), zu_same]))
theorem FZ.r (hf : FZ (z_u I 1835 0 0) I') : rFr I J I' J ∧ I' 1835 0 = 0 := ⟨rFr.of (fun a ha => by rw [hf.1 a (by omega) (by omega) (by omega) (by omega) (by omega) (by omega) (by omega) (by omega) (by omega) (by omega) (by omega) (by omega) (by omega) (by omega), zu_ne (by omega)]), by rw [hf.2.1 0 (by decide) (by decide) (by decide) (by decide) (by decide), zu_same]⟩
theorem r_reached {x1 : Int} (hd : 8 ≤ d) (hP : PVs s) (h : RIv I s) (hx : inR x1) (h0 : ¬ (0 ≤ x1 ∧ x1 ≤ 3) → RK0 t I J s Q) (h1 : (0 ≤ x1 ∧ x1 ≤ 3) → RK1 t I J s Q (reA (sD s) x1)) : Go sc d mt_238 0 [vr 1835, vi x1, vn, vn, vn] [] (z_cfg t, I, J) Q :=
  k238 hx hd h.1.1 (PVs.hl hP).1 (PVs.hl hP).2 h.2.1.1 (G0 (sD s)) rfl (TT (sD s) false) (TT_f _) (fun z => (h0 z).go h) (fun z I1 f V z67 K => h1 z _ _ (h.f0.fz f V z67 K) (FZ.r (J := J) f).1 (FZ.r (J := J) f).2)
theorem r_ways (hd : 8 ≤ d) (hP : PVs s) (h : RIv I s) (h1 : RK1 t I J s Q (wysA (sD s))) : Go sc d mt_258 0 [vr 1835, vn, vn, vn] [] (z_cfg t, I, J) Q :=
  k258 hd h.1.1 (PVs.hl hP).1 (PVs.hl hP).2 h.2.1.1 (G0 (sD s)) rfl (TT (sD s) false) (TT_f _) (fun I' I1 f g V z67 K => by
    have h2 := h.f0.fz f V z67 K
    have h3 : RIv I' s := by
      have g0 := h2
      obtain ⟨⟨a1, a2⟩, ⟨a3, a4, a5, a6⟩, a7, a8, a9, a10, a11⟩ := h2
      have e : ∀ k, I' 1835 k = I1 1835 k := fun k => by rw [g 1835 (by decide)]
      exact g0.gen (a1.row (A := 3220) (by decide) g) ((e 52).trans a2) (a3.gen (fun k _ => e k) (fun a ha => g a (by omega))) (a4.to (fun k _ => e k)) (a5.to (g 3252 (by decide))) (a6.to (e 82)) (a7.to (fun k _ => e k) (fun a ha => g a (by omega))) (fun k _ => e k) (fun a ha => g a (by omega))
    exact h1 _ _ h3 (rFr.of (fun a ha => by rw [g a (by omega)]; exact ((FZ.r (J := J) f).1 a ha).1)) (by rw [g 1835 (by decide)]; exact (FZ.r (J := J) f).2))
theorem r_hint {x1 : Int} {k0 : Nat} (hd : 8 ≤ d) (hP : PVs s) (h : RIv I s) (hk0 : gSp (G0 (sD s)) = false → k0 < gN (G0 (sD s)) ∧ gX (G0 (sD s)) k0 = sPs s (sMk s)) (hx : inR x1) (h0 : ¬ (0 ≤ x1 ∧ x1 ≤ 3) → RK0 t I J s Q) (h1 : (0 ≤ x1 ∧ x1 ≤ 3) → RK1 t I J s Q (hnA (sD s) k0 x1)) : Go sc d mt_282 0 [vr 1835, vi x1, vn, vn, vn] [] (z_cfg t, I, J) Q := by
  obtain ⟨⟨r, hr, hsr⟩, -⟩ := h.2.2.2.1.2.2 (sMk s) (Nat.le_refl _)
  have hst := (hP.1.2.2.2 (sMk s) (Nat.le_refl _)).1
  exact k282 (s := sPs s (sMk s)) hx hd h.1.1 (PVs.hl hP).1 (PVs.hl hP).2 h.2.1.1 (G0 (sD s)) rfl (TT (sD s) false) (TT_f _) h.2.2.2.1.1 hP.1.1 hr hsr hst.1 hk0 (fun z => (h0 z).go h) (fun z I1 f V z67 K => h1 z _ _ (h.f0.fz f V z67 K) (FZ.r (J := J) f).1 (FZ.r (J := J) f).2)
theorem r_way {x1 x2 : Int} (hd : 1 ≤ d) (h : RIv I s) (hx : inR x1) (hx2 : inR x2) (h0 : ¬ (∃ l, sK s = some l ∧ wayOk l x1 x2) → RK0 t I J s Q) (h1 : ∀ l, sK s = some l → wayOk l x1 x2 → RK1 t I J s Q (wayA (sD s) l x1 x2)) : Go sc d mt_259 0 [vr 1835, vi x1, vi x2, vn, vn] [] (z_cfg t, I, J) Q :=
  k259 hx hx2 hd h.1.1.2.2 h.2.2.1 (fun z => (h0 z).go h) (fun l z1 z2 => (h1 l z1 z2).go h)
theorem r_where {x1 x2 : Int} (hd : 1 ≤ d) (h : RIv I s) (hx : inR x1) (hx2 : inR x2) (h0 : ¬ (∃ l, sK s = some l ∧ (0 ≤ x1 ∧ x1 ≤ (l.length : Int)) ∧ (0 ≤ x2 ∧ x2 < dT (sD s))) → RK0 t I J s Q) (h1 : ∀ l, sK s = some l → (0 ≤ x1 ∧ x1 ≤ (l.length : Int)) → (0 ≤ x2 ∧ x2 < dT (sD s)) → RK1 t I J s Q ((lshore (aft (sD s) l x1.toNat) x2.toNat : Nat) : Int)) : Go sc d mt_260 0 [vr 1835, vi x1, vi x2] [] (z_cfg t, I, J) Q :=
  k260 hx hx2 hd h.1.1.2.2 h.2.2.1 (fun z => (h0 z).go h) (fun l z1 z2 z3 => (h1 l z1 z2 z3).go h)
theorem r_rides {x1 x2 : Int} (hd : 1 ≤ d) (h : RIv I s) (hx : inR x1) (hx2 : inR x2) (h0 : ¬ (∃ l, sK s = some l ∧ (0 ≤ x1 ∧ x1 < dT (sD s)) ∧ (x2 = 0 ∨ x2 = 1)) → RK0 t I J s Q) (h1 : ∀ l, sK s = some l → (0 ≤ x1 ∧ x1 < dT (sD s)) → (x2 = 0 ∨ x2 = 1) → RK1 t I J s Q ((if x2 = 0 then cCar l x1.toNat l.length else cAln (sD s) l x1.toNat l.length : Nat) : Int)) : Go sc d mt_261 0 [vr 1835, vi x1, vi x2, vn, vn, vn, vn] [] (z_cfg t, I, J) Q :=
  k261 hx hx2 hd h.1.1.2.2 h.2.2.1 (fun z => (h0 z).go h) (fun l z1 z2 z3 => (h1 l z1 z2 z3).go h)
theorem szA_in (hD : dOk D) : (-3 < szA D 0 ∧ szA D 0 < 2147483640) ∧ (-3 < szA D 1 ∧ szA D 1 < 2147483640) := by
  have a := lhA_in D 8 1 (by decide)
  have b := llA_in D 999 0 999 (by decide) (by decide)
  have e0 : szA D 0 = lhA D 8 1 := by unfold szA; rw [if_pos rfl]
  refine ⟨by rw [e0]; omega, ?_⟩
  unfold szA
  rw [if_neg (by decide)]
  split
  · rename_i z
    have g := ansG_in (D := D) (gAll_ok (act := acts D (-1)) (ho := dHo D 0) (lo := 999) hD)
    have g : -2 ≤ ag D (-1) (dHo D 0) 999 ∧ _ := g
    omega
  · omega
theorem FV.r (hf : FV I I') : rFr I J I' J := rFr.of (fun a ha => hf.1 a (by omega) (by omega) (by omega) (by omega) (by omega) (by omega) (by omega) (by omega) (by omega) (by omega) (by omega) (by omega) (by omega) (by omega) (by omega) (by omega) (by omega))
theorem RIv.fv (h : RIv I s) (f : FV I I') (V : RV I' (sD s) (dHo (sD s) 0) (dLo (sD s) 0)) (L : LK I' (sD s)) (S : SK I' (sD s)) (e52 : I' 1835 52 = -1) (z : R67 I' (sD s)) : RIv I' s := by
  have g := h
  obtain ⟨⟨h1, h2⟩, ⟨h3, h4, h5, h6⟩, h7, h8, h9, h10, h11⟩ := h
  have e : ∀ k, k = 18 ∨ k = 20 ∨ k = 70 ∨ k = 71 ∨ k = 82 ∨ k = 84 ∨ k = 85 → I' 1835 k = I 1835 k := fun k hk => f.2 k (by omega) (by omega) (by omega) (by omega) (by omega) (by omega) (by omega) (by omega) (by omega)
  have fa : ∀ a, a = 2196 ∨ (3060 ≤ a ∧ a ≤ 3188) ∨ a = 3316 ∨ a = 3348 → I' a = I a := fun a ha => f.1 a (by omega) (by omega) (by omega) (by omega) (by omega) (by omega) (by omega) (by omega) (by omega) (by omega) (by omega) (by omega) (by omega) (by omega) (by omega) (by omega) (by omega)
  exact g.gen V e52 z L S (h6.to (e 82 (by decide))) (h7.to (fun k hk => e k (by omega)) (fun a ha => fa a (by omega))) (fun k hk => e k (by omega)) (fun a ha => fa a (by omega))
end
