/-! ===== the reference's expressions (a yard), pure: the rules give the grammar ===== -/
def yo (o : Int) : Int := if o = 1200 then 5 else if o = 1201 then 4 else if o = 1208 then 3 else o - 1196
theorem yo_enc {o : Int} (h : 1200 ≤ o ∧ o ≤ 1208) : encR o = [yo o] := by
  unfold encR yo
  rw [if_neg (by omega), if_neg (by omega), if_neg (by omega), if_neg (by omega), if_neg (by omega), if_neg (by omega), if_neg (by omega), if_neg (by omega)]
  split
  · rfl
  · split
    · rfl
    · split <;> rfl
def yst (a : Int) : Nat := if a = 12 then 0 else if a = 5 then 1 else if a = 4 then 2 else if a = 3 then 3 else if a = 6 then 4 else if a = 7 then 4 else if a = 8 then 5 else if a = 9 then 5 else 6
theorem yst_le (a : Int) : yst a ≤ 6 := by
  unfold yst
  split
  · omega
  · split
    · omega
    · split
      · omega
      · split
        · omega
        · split
          · omega
          · split
            · omega
            · split
              · omega
              · split <;> omega
def yl (L : Nat) : Nat := if L = 0 then 1 else if L = 1 then 2 else L + 2
def yHi (g : Nat) (P : List Int) : Prop := ∀ a, a ∈ P → (3 ≤ a ∧ a ≤ 11) ∧ g ≤ yst a
def yLow (g : Nat) (W : List Int) : Prop := ∀ a W', W = a :: W' → a = 12 ∨ yst a < g
theorem yHi.mono {g g' : Nat} {P : List Int} (h : yHi g P) (l : g' ≤ g) : yHi g' P := fun a ha => ⟨(h a ha).1, Nat.le_trans l (h a ha).2⟩
theorem yLow.mono {g g' : Nat} {W : List Int} (h : yLow g W) (l : g ≤ g') : yLow g' W := fun a W' e => (h a W' e).elim Or.inl (fun z => Or.inr (Nat.lt_of_lt_of_le z l))
theorem yHi.nil (g : Nat) : yHi g [] := fun a ha => absurd ha List.not_mem_nil
theorem yHi.snoc {g : Nat} {P : List Int} {a : Int} (h : yHi g P) (h1 : 3 ≤ a ∧ a ≤ 11) (h2 : g ≤ yst a) : yHi g (P ++ [a]) := fun b hb => by
  rcases List.mem_append.1 hb with z | z
  · exact h b z
  · rw [List.mem_singleton.1 z]
    exact ⟨h1, h2⟩
theorem yLow.cons {g : Nat} {W : List Int} {a : Int} (h : a = 12 ∨ yst a < g) : yLow g (a :: W) := fun b W' e => by
  cases e
  exact h
theorem xOp_y {B : Nat → Nat} {n L p : Nat} {o : Int} (hL : L ≤ 4) (h : xOp B n L p = some o) : (1200 ≤ o ∧ o ≤ 1207) ∧ (3 ≤ yo o ∧ yo o ≤ 11) ∧ yst (yo o) = yl L := by
  have hL2 : L = 0 ∨ L = 1 ∨ L = 2 ∨ L = 3 ∨ L = 4 := by omega
  rcases hL2 with e | e | e | e | e <;> subst e
  · have h : (if xW B n p 15 = true then some (1200 : Int) else none) = some o := h
    split at h
    · cases h; decide
    · cases h
  · have h : (if xW B n p 14 = true then some (1201 : Int) else none) = some o := h
    split at h
    · cases h; decide
    · cases h
  · rw [xOp_2] at h
    split at h
    · cases h; decide
    · split at h
      · cases h; decide
      · cases h
  · rw [xOp_3] at h
    split at h
    · cases h; decide
    · split at h
      · cases h; decide
      · cases h
  · rw [xOp_4] at h
    split at h
    · cases h; decide
    · split at h
      · cases h; decide
      · cases h
def YR (B : Nat → Nat) (n : Nat) (D : tD) (F : Bool → Nat → Nat → List Int → List Int → List Bool → Prop) (H : Nat → List Int → List Int → List Bool → Prop) (Z : Nat × Nat → Prop) (E : Nat → List Int → Prop) : Prop :=
  (∀ (k p : Nat) (W O : List Int) (T : List Bool), p ≤ n → xW B n p 16 = true → k < 6 → F true (k + 1) (xE B n p) (3 :: W) O T → F true k p W O T) ∧
  (∀ (p : Nat) (W O : List Int) (T : List Bool), p ≤ n → xW B n p 16 = true → Z (2, xS B n p) → F true 6 p W O T) ∧
  (∀ (b : Bool) (k p : Nat) (W O : List Int) (T : List Bool), p ≤ n → (b = true → xW B n p 16 = false) → xIsG B n 40 (.inl p) = true → (T.length < 6 → F true 0 (xE B n p) (12 :: W) O (false :: T)) → (¬ T.length < 6 → Z (if xK B n (xE B n p) = 2 ∨ xK B n (xE B n p) = 1 ∨ xIsG B n 40 (.inl (xE B n p)) = true then 2 else 1, xS B n (xE B n p))) → F b k p W O T) ∧
  (∀ (b : Bool) (k p : Nat) (W O : List Int) (T : List Bool) (nst : Nat → pX), p ≤ n → (b = true → xW B n p 16 = false) → xIsG B n 40 (.inl p) = false → (∀ e, gPart B n D nst p = .inl e → Z e) → (∀ C q, gPart B n D nst p = .inr (C, q) → H q W (O ++ C.flatMap encR) T) → F b k p W O T) ∧
  (∀ (L : Nat) (o : Int) (p : Nat) (P W O : List Int) (f : Bool) (T : List Bool), p ≤ n → L ≤ 4 → xOp B n L p = some o → (L = 2 → f = false) → yHi (yl L) P → yLow (yl L) W → F (decide (L ≤ 1)) 0 (xE B n p) (yo o :: W) (O ++ P) ((if L ≤ 1 then false else if L = 2 then true else f) :: T) → H p (P ++ W) O (f :: T)) ∧
  (∀ (p : Nat) (P W O : List Int) (f : Bool) (T : List Bool), p ≤ n → xIsG B n 41 (.inl p) = true → ¬ T = [] → yHi 0 P → H (xE B n p) W (O ++ P) T → H p (P ++ 12 :: W) O (f :: T)) ∧
  (∀ (p : Nat) (P O : List Int) (f : Bool), p ≤ n → (∀ L, L ≤ 4 → ¬ L = 2 → xOp B n L p = none) → (xOp B n 2 p = none ∨ f = true) → yHi 0 P → E p (O ++ P) → H p P O [f]) ∧
  (∀ (p : Nat) (W O : List Int) (f : Bool) (T : List Bool), p ≤ n → (∀ L, L ≤ 4 → ¬ L = 2 → xOp B n L p = none) → (xOp B n 2 p = none ∨ f = true) → ¬ T = [] → xIsG B n 41 (.inl p) = false → Z (1, xS B n p) → H p W O (f :: T))
section
variable {B : Nat → Nat} {n : Nat} {D : tD} {F : Bool → Nat → Nat → List Int → List Int → List Bool → Prop} {H : Nat → List Int → List Int → List Bool → Prop} {Z : Nat × Nat → Prop} {E : Nat → List Int → Prop}
def SQ (F : Bool → Nat → Nat → List Int → List Int → List Bool → Prop) (H : Nat → List Int → List Int → List Bool → Prop) (Z : Nat × Nat → Prop) (y : Nat) (b : Bool) (k g : Nat) (f : Bool) (R : Bool → Nat → Prop) (G : Nat → pX) (p : Nat) : Prop := ∀ (W O : List Int) (T : List Bool), yLow g W → T.length = y → (∀ e, G p = .inl e → Z e) → (∀ (C : List Int) (q : Nat) (P O' : List Int) (f' : Bool), G p = .inr (C, q) → yHi g P → O' ++ P = O ++ C.flatMap encR → R f' q → H q (P ++ W) O' (f' :: T)) → F b k p W O (f :: T)
theorem xOp_end {L q : Nat} (h : n ≤ q) : xOp B n L q = none := by
  cases ho : xOp B n L q with
  | none => rfl
  | some o =>
    have a := xK_lt (xOp_k ho).1
    have b := (xScn_r (f := xB) (B := B) (n - q) q).1
    have b : q ≤ xS B n q := b
    omega
theorem gRow_y {sub : Nat → pX} {L m q : Nat} {C1 : List Int} {o : Int} (h : xOp B n L q = some o) : gRow B n sub L (m + 1) q C1 = match sub (xE B n q) with | .inl e => .inl e | .inr r => gRow B n sub L m r.2 (C1 ++ r.1 ++ [o]) := by
  show (match xOp B n L q with | none => _ | some o => _) = _
  rw [h]
  first | done | rfl
theorem gRow_n {sub : Nat → pX} {L m q : Nat} {C1 : List Int} (h : xOp B n L q = none) : gRow B n sub L m q C1 = .inr (C1, q) := by
  cases m with
  | zero => rfl
  | succ m =>
    show (match xOp B n L q with | none => _ | some o => _) = _
    rw [h]
theorem yRow (hR : YR B n D F H Z E) {sub : Nat → pX} {L y g gs : Nat} {f : Bool} {R : Bool → Nat → Prop} (hL : L ≤ 4 ∧ ¬ L = 2) (hg : g = yl L ∧ g < gs) (hG : GL n sub) (hfl : ∀ f' q, R f' q → (if L ≤ 1 then false else f') = f) (hsub : ∀ p, p ≤ n → SQ F H Z y (decide (L ≤ 1)) 0 gs f R sub p) {W O : List Int} {T : List Bool} (hW : yLow g W) (hT : T.length = y) :
    ∀ (m q : Nat) (P O' C1 : List Int) (f' : Bool), q ≤ n → n ≤ q + m → yHi g P → O' ++ P = O ++ C1.flatMap encR → R f' q → (∀ e, gRow B n sub L m q C1 = .inl e → Z e) → (∀ (C : List Int) (q' : Nat) (P O' : List Int) (f' : Bool), gRow B n sub L m q C1 = .inr (C, q') → yHi g P → O' ++ P = O ++ C.flatMap encR → R f' q' ∧ xOp B n L q' = none → H q' (P ++ W) O' (f' :: T)) → H q (P ++ W) O' (f' :: T) := by
  intro m
  induction m with
  | zero =>
    intro q P O' C1 f' hq hm hP hO hr _ hk
    exact hk C1 q P O' f' rfl hP hO ⟨hr, xOp_end (by omega)⟩
  | succ m ih =>
    intro q P O' C1 f' hq hm hP hO hr he hk
    cases ho : xOp B n L q with
    | none => exact hk C1 q P O' f' (gRow_n ho) hP hO ⟨hr, ho⟩
    | some o =>
      have hy := xOp_y hL.1 ho
      have hE := xE_gt hq (xOp_k ho).1
      have eg := gRow_y (sub := sub) (m := m) (C1 := C1) ho
      rw [hg.1] at hP hW
      refine hR.2.2.2.2.1 L o q P W O' f' T hq hL.1 ho (fun z => absurd z hL.2) hP hW ?_
      have efl : (if L ≤ 1 then false else if L = 2 then true else f') = f := by
        rw [if_neg hL.2]
        exact hfl f' q hr
      rw [efl]
      rw [← hg.1] at hP hW
      refine hsub (xE B n q) hE.2 (yo o :: W) (O' ++ P) T (yLow.cons (Or.inr (by omega))) hT (fun e z => he e ?_) (fun C2 q2 P2 O2 f2 z hP2 hO2 hr2 => ?_)
      · rw [eg, z]
      · have gl := hG _ _ _ hE.2 z
        rw [show P2 ++ yo o :: W = (P2 ++ [yo o]) ++ W by rw [List.append_assoc]; rfl]
        have eg2 : gRow B n sub L (m + 1) q C1 = gRow B n sub L m q2 (C1 ++ C2 ++ [o]) := by rw [eg, z]
        rw [eg2] at he hk
        refine ih q2 (P2 ++ [yo o]) O2 (C1 ++ C2 ++ [o]) f2 gl.2 (by omega) ((hP2.mono (by omega)).snoc hy.2.1 (by omega)) ?_ hr2 he hk
        have e1 : [o].flatMap encR = [yo o] := by
          show encR o ++ [] = _
          rw [List.append_nil, yo_enc ⟨hy.1.1, by omega⟩]
        rw [← List.append_assoc, hO2, hO, List.flatMap_append, List.flatMap_append, e1]
        simp only [List.append_assoc]
theorem yLvl (hR : YR B n D F H Z E) (hn : n ≤ 700) {sub : Nat → pX} {L y g gs : Nat} {f : Bool} {R : Bool → Nat → Prop} (hL : L ≤ 4 ∧ ¬ L = 2) (hg : g = yl L ∧ g < gs) (hG : GL n sub) (hfl : ∀ f' q, R f' q → (if L ≤ 1 then false else f') = f) (hsub : ∀ p, p ≤ n → SQ F H Z y (decide (L ≤ 1)) 0 gs f R sub p) {b : Bool} {k p : Nat} (hp : p ≤ n) (h1 : SQ F H Z y b k gs f R sub p) : SQ F H Z y b k g f (fun f' q => R f' q ∧ xOp B n L q = none) (gLvl B n sub L) p := by
  intro W O T hW hT he hk
  refine h1 W O T (hW.mono (by omega)) hT (fun e z => he e (by unfold gLvl; rw [z])) (fun C q P O' f' z hP hO hr => ?_)
  have gl := hG _ _ _ hp z
  have eg : gLvl B n sub L p = gRow B n sub L 700 q C := by unfold gLvl; rw [z]
  rw [eg] at he hk
  exact yRow hR hL hg hG hfl hsub hW hT 700 q P O' C f' gl.2 (by omega) (hP.mono (by omega)) hO hr he hk
def Rs (B : Nat → Nat) (n : Nat) (f : Bool) (f' : Bool) (q : Nat) : Prop := (f' = f ∧ xOp B n 4 q = none) ∧ xOp B n 3 q = none
def Rt (B : Nat → Nat) (n : Nat) (f' : Bool) (q : Nat) : Prop := xOp B n 4 q = none ∧ xOp B n 3 q = none ∧ (xOp B n 2 q = none ∨ f' = true)
def Ro (B : Nat → Nat) (n : Nat) (f' : Bool) (q : Nat) : Prop := (Rt B n f' q ∧ xOp B n 1 q = none) ∧ xOp B n 0 q = none
theorem Ro.all {f' : Bool} {q : Nat} (h : Ro B n f' q) : (∀ L, L ≤ 4 → ¬ L = 2 → xOp B n L q = none) ∧ (xOp B n 2 q = none ∨ f' = true) := by
  refine ⟨fun L h1 h2 => ?_, h.1.1.2.2⟩
  have hL : L = 0 ∨ L = 1 ∨ L = 3 ∨ L = 4 := by omega
  rcases hL with e | e | e | e <;> subst e
  · exact h.2
  · exact h.1.2
  · exact h.1.1.2.1
  · exact h.1.1.1
theorem yTst (hR : YR B n D F H Z E) {sum : Nat → pX} {y : Nat} (hG : GL n sum) (hsum : ∀ (b : Bool) (k p : Nat) (f : Bool), p ≤ n → (b = true → xW B n p 16 = false) → SQ F H Z y b k 5 f (Rs B n f) sum p) {b : Bool} {k p : Nat} (hp : p ≤ n) (hb : b = true → xW B n p 16 = false) : SQ F H Z y b k 4 false (Rt B n) (gTst B n sum) p := by
  intro W O T hW hT he hk
  refine hsum b k p false hp hb W O T (hW.mono (by omega)) hT (fun e z => he e (by unfold gTst; rw [z])) (fun C q P O' f' z hP hO hr => ?_)
  have gl := hG _ _ _ hp z
  have ef : f' = false := hr.1.1
  cases ho : xOp B n 2 q with
  | none =>
    refine hk C q P O' f' ?_ (hP.mono (by omega)) hO ⟨hr.1.2, hr.2, Or.inl ho⟩
    unfold gTst
    rw [z]
    simp only [ho]
  | some o =>
    have hy := xOp_y (by decide) ho
    have hyl : yst (yo o) = 4 := hy.2.2
    have hE := xE_gt gl.2 (xOp_k ho).1
    refine hR.2.2.2.2.1 2 o q P W O' f' T gl.2 (by decide) ho (fun _ => ef) (hP.mono (by decide)) hW ?_
    show F false 0 (xE B n q) (yo o :: W) (O' ++ P) (true :: T)
    refine hsum false 0 (xE B n q) true hE.2 (fun z => by cases z) (yo o :: W) (O' ++ P) T (yLow.cons (Or.inr (by omega))) hT (fun e z2 => he e ?_) (fun C2 q2 P2 O2 f2 z2 hP2 hO2 hr2 => ?_)
    · unfold gTst
      rw [z]
      simp only [ho, z2]
    · rw [show P2 ++ yo o :: W = (P2 ++ [yo o]) ++ W by rw [List.append_assoc]; rfl]
      refine hk (C ++ C2 ++ [o]) q2 (P2 ++ [yo o]) O2 f2 ?_ ((hP2.mono (by omega)).snoc hy.2.1 (by omega)) ?_ ⟨hr2.1.2, hr2.2, Or.inr hr2.1.1⟩
      · unfold gTst
        rw [z]
        simp only [ho, z2]
      · have e1 : [o].flatMap encR = [yo o] := by
          show encR o ++ [] = _
          rw [List.append_nil, yo_enc ⟨hy.1.1, by omega⟩]
        rw [← List.append_assoc, hO2, hO, List.flatMap_append, List.flatMap_append, e1]
        simp only [List.append_assoc]
theorem yRep (N : Nat) : (List.replicate N (1208 : Int)).flatMap encR = List.replicate N 3 := by
  induction N with
  | zero => rfl
  | succ N ih =>
    rw [List.replicate_succ, List.replicate_succ, List.flatMap_cons, ih]
    rfl
theorem yNot (hR : YR B n D F H Z E) {sum : Nat → pX} {y : Nat} (hG : GL n sum) (hsum : ∀ (b : Bool) (k p : Nat) (f : Bool), p ≤ n → (b = true → xW B n p 16 = false) → SQ F H Z y b k 5 f (Rs B n f) sum p) {p0 : Nat} (hp0 : p0 ≤ n) : SQ F H Z y true 0 3 false (Rt B n) (gNot B n sum) p0 := by
  intro W O T hW hT he hk
  have fin : ∀ (k p : Nat), p ≤ n → xW B n p 16 = false → gNot B n sum p0 = gFn B n sum k p → F true k p (List.replicate k 3 ++ W) O (false :: T) := fun k p hp hw eg => by
    have lw : yLow 4 (List.replicate k 3 ++ W) := by
      cases k with
      | zero => exact hW.mono (by decide)
      | succ k => exact yLow.cons (Or.inr (by decide))
    refine yTst hR hG hsum hp (fun _ => hw) (List.replicate k 3 ++ W) O T lw hT (fun e z => he e (by rw [eg, gFn_n z])) (fun C q P O' f' z hP hO hr => ?_)
    rw [← List.append_assoc]
    refine hk (C ++ List.replicate k 1208) q (P ++ List.replicate k 3) O' f' (by rw [eg, gFn_y z]) ?_ ?_ hr
    · intro a ha
      rcases List.mem_append.1 ha with z | z
      · exact (hP.mono (by decide)) a z
      · rw [(List.mem_replicate.1 z).2]
        decide
    · rw [← List.append_assoc, hO, List.flatMap_append, yRep, List.append_assoc]
  have lp : ∀ (m k p : Nat), k + m = 6 → p ≤ n → (gNs B n m p).1 + k = (gNs B n 6 p0).1 → (gNs B n m p).2 = (gNs B n 6 p0).2 → F true k p (List.replicate k 3 ++ W) O (false :: T) := by
    intro m
    induction m with
    | zero =>
      intro k p hkm hp g1 g2
      have g1 : 0 + k = (gNs B n 6 p0).1 := g1
      have g2 : p = (gNs B n 6 p0).2 := g2
      cases hw : xW B n p 16 with
      | true =>
        have e6 : k = 6 := by omega
        have eg : gNot B n sum p0 = .inl (2, xS B n p) := by
          unfold gNot
          rw [if_pos ⟨by omega, by rw [← g2]; exact hw⟩, ← g2]
        have z := he _ eg
        rw [e6]
        exact hR.2.1 p _ O (false :: T) hp hw z
      | false => exact fin k p hp hw (gNot_f (by omega) g2.symm (fun z => by rw [hw] at z; cases z.2))
    | succ m ih =>
      intro k p hkm hp g1 g2
      cases hw : xW B n p 16 with
      | true =>
        have hE := xE_gt hp (xW_k hw)
        have eN : gNs B n (m + 1) p = ((gNs B n m (xE B n p)).1 + 1, (gNs B n m (xE B n p)).2) := by
          show (if xW B n p 16 = true then _ else _) = _
          rw [if_pos hw]
        rw [eN] at g1 g2
        have g1 : (gNs B n m (xE B n p)).1 + 1 + k = (gNs B n 6 p0).1 := g1
        refine hR.1 k p _ O (false :: T) hp hw (by omega) ?_
        exact ih (k + 1) (xE B n p) (by omega) hE.2 (by omega) g2
      | false =>
        have eN : gNs B n (m + 1) p = (0, p) := by
          show (if xW B n p 16 = true then _ else _) = _
          rw [if_neg (by rw [hw]; decide)]
        rw [eN] at g1 g2
        have g1 : 0 + k = (gNs B n 6 p0).1 := g1
        have g2 : p = (gNs B n 6 p0).2 := g2
        exact fin k p hp hw (gNot_f (by omega) g2.symm (fun z => by omega))
  exact lp 6 0 p0 (by decide) hp0 rfl rfl
theorem yPart (hR : YR B n D F H Z E) {nst : Nat → pX} {y : Nat} (hG : GL n nst) (hn : (y < 5 ∧ ∀ p, p ≤ n → SQ F H Z (y + 1) true 0 1 false (Ro B n) nst p) ∨ (y = 5 ∧ nst = gExp B n D 0)) {b : Bool} {k p : Nat} {f : Bool} (hp : p ≤ n) (hb : b = true → xW B n p 16 = false) : SQ F H Z y b k 7 f (fun f' _ => f' = f) (gPart B n D nst) p := by
  intro W O T hW hT he hk
  cases hc : xIsG B n 40 (.inl p) with
  | false => exact hR.2.2.2.1 b k p W O (f :: T) nst hp hb hc he (fun C q z => hk C q [] _ f z (yHi.nil 7) (List.append_nil _) rfl)
  | true =>
    have hE := xE_gt hp (xIsG_k hc)
    have k3 : xK B n p = 3 := by
      rw [xIsG_v, decide_eq_true_iff] at hc
      exact hc.1
    have eP : gPart B n D nst p = (match nst (xE B n p) with | .inl e => .inl e | .inr r => if xIsG B n 41 (.inl r.2) = true then .inr (r.1, xE B n r.2) else .inl (1, xS B n r.2)) := by
      unfold gPart
      rw [if_neg (by omega), if_neg (by omega), if_neg (by omega), if_pos hc]
      first | done | rfl
    have hl : (f :: T).length = y + 1 := by rw [← hT]; rfl
    refine hR.2.2.1 b k p W O (f :: T) hp hb hc (fun hlt => ?_) (fun hlt => ?_)
    · rcases hn with hn | hn
      · refine hn.2 (xE B n p) hE.2 (12 :: W) O (f :: T) (yLow.cons (Or.inl rfl)) hl (fun e z => he e (by rw [eP, z])) (fun C q P O' f' z hP hO hr => ?_)
        have gl := hG _ _ _ hE.2 z
        simp only [z] at eP
        cases h41 : xIsG B n 41 (.inl q) with
        | true =>
          rw [if_pos h41] at eP
          refine hR.2.2.2.2.2.1 q P W O' f' (f :: T) gl.2 h41 (fun z => by cases z) (hP.mono (by decide)) ?_
          exact hk C (xE B n q) [] (O' ++ P) f eP (yHi.nil 7) (by rw [List.append_nil]; exact hO) rfl
        | false =>
          rw [if_neg (by rw [h41]; decide)] at eP
          exact hR.2.2.2.2.2.2.2 q _ O' f' (f :: T) gl.2 hr.all.1 hr.all.2 (fun z => by cases z) h41 (he _ eP)
      · omega
    · rcases hn with hn | hn
      · omega
      · refine he _ ?_
        rw [eP, hn.2]
        rfl
theorem yOr (hR : YR B n D F H Z E) (hn7 : n ≤ 700) {nst : Nat → pX} {y : Nat} (hG : GL n nst) (hn : (y < 5 ∧ ∀ p, p ≤ n → SQ F H Z (y + 1) true 0 1 false (Ro B n) nst p) ∨ (y = 5 ∧ nst = gExp B n D 0)) : ∀ p, p ≤ n → SQ F H Z y true 0 1 false (Ro B n) (gOr B n D nst) p := by
  have g5 := hG.part (B := B) (D := D)
  have a5 : ∀ (b : Bool) (k p : Nat) (f : Bool), p ≤ n → (b = true → xW B n p 16 = false) → SQ F H Z y b k 7 f (fun f' _ => f' = f) (gPart B n D nst) p := fun b k p f hp hb => yPart hR hG hn hp hb
  have g4 := g5.lvl (B := B) 4
  have a4 : ∀ (b : Bool) (k p : Nat) (f : Bool), p ≤ n → (b = true → xW B n p 16 = false) → SQ F H Z y b k 6 f (fun f' q => f' = f ∧ xOp B n 4 q = none) (gLvl B n (gPart B n D nst) 4) p := fun b k p f hp hb =>
    yLvl hR hn7 (L := 4) (by decide) (by decide) g5 (fun f' q z => by rw [if_neg (by decide)]; exact z) (fun p hp => a5 _ 0 p f hp (fun z => by cases z)) hp (a5 b k p f hp hb)
  have g3 := g4.lvl (B := B) 3
  have a3 : ∀ (b : Bool) (k p : Nat) (f : Bool), p ≤ n → (b = true → xW B n p 16 = false) → SQ F H Z y b k 5 f (Rs B n f) (gLvl B n (gLvl B n (gPart B n D nst) 4) 3) p := fun b k p f hp hb =>
    yLvl hR hn7 (L := 3) (by decide) (by decide) g4 (fun f' q z => by rw [if_neg (by decide)]; exact z.1) (fun p hp => a4 _ 0 p f hp (fun z => by cases z)) hp (a4 b k p f hp hb)
  have g2 := g3.not (B := B)
  have a2 : ∀ p, p ≤ n → SQ F H Z y true 0 3 false (Rt B n) (gNot B n (gLvl B n (gLvl B n (gPart B n D nst) 4) 3)) p := fun p hp => yNot hR g3 a3 hp
  have g1 := g2.lvl (B := B) 1
  have a1 : ∀ p, p ≤ n → SQ F H Z y true 0 2 false (fun f' q => Rt B n f' q ∧ xOp B n 1 q = none) (gLvl B n (gNot B n (gLvl B n (gLvl B n (gPart B n D nst) 4) 3)) 1) p := fun p hp =>
    yLvl hR hn7 (L := 1) (by decide) (by decide) g2 (fun f' q _ => by rw [if_pos (by decide)]) (fun p hp => a2 p hp) hp (a2 p hp)
  intro p hp
  exact yLvl hR hn7 (L := 0) (by decide) (by decide) g1 (fun f' q _ => by rw [if_pos (by decide)]) (fun p hp => a1 p hp) hp (a1 p hp)
theorem yExp (hR : YR B n D F H Z E) (hn7 : n ≤ 700) : ∀ (m y : Nat), m + y = 5 → ∀ p, p ≤ n → SQ F H Z y true 0 1 false (Ro B n) (gExp B n D (m + 1)) p := by
  intro m
  induction m with
  | zero => intro y hy; exact yOr hR hn7 (GL.exp 0) (Or.inr ⟨by omega, rfl⟩)
  | succ m ih => intro y hy; exact yOr hR hn7 (GL.exp (m + 1)) (Or.inl ⟨by omega, ih (y + 1) (by omega)⟩)
/-- an expression from p, the yard empty -/
theorem yMain (hR : YR B n D F H Z E) (hn7 : n ≤ 700) {p : Nat} (hp : p ≤ n) (O : List Int) (he : ∀ e, gExp B n D 6 p = .inl e → Z e) (hk : ∀ (C : List Int) (q : Nat), gExp B n D 6 p = .inr (C, q) → E q (O ++ C.flatMap encR)) : F true 0 p [] O [false] := by
  refine yExp hR hn7 5 0 rfl p hp [] O [] (fun a W' e => by cases e) rfl he (fun C q P O' f' z hP hO hr => ?_)
  have gl := GL.exp (B := B) (D := D) 6 _ _ _ hp z
  rw [List.append_nil]
  refine hR.2.2.2.2.2.2.1 q P O' f' gl.2 hr.all.1 hr.all.2 (hP.mono (by decide)) ?_
  rw [hO]
  exact hk C q z
end
