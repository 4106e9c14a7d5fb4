/-! ===== the reference: the sets that a boat bears ===== -/
def rHo (D : tD) (ho b : Nat) : Nat := if b = 0 then ho else dHo D b
def rLo (D : tD) (lo b : Nat) : Nat := if b = 0 then lo else dLo D b
def fS (D : tD) (ho lo b n : Nat) : List Nat := (List.range' 1 n).filter (fun S => dFits D S (rHo D ho b) (rLo D lo b))
theorem fS_len (D : tD) (ho lo b n : Nat) : (fS D ho lo b n).length ≤ n := by
  unfold fS
  refine Nat.le_trans (List.length_filter_le _ _) ?_
  rw [List.length_range']
  exact Nat.le_refl _
theorem fS_succ (D : tD) (ho lo b n : Nat) : fS D ho lo b (n + 1) = fS D ho lo b n ++ (if dFits D (n + 1) (rHo D ho b) (rLo D lo b) = true then [n + 1] else []) := by
  unfold fS
  rw [List.range'_1_concat, List.filter_append, show 1 + n = n + 1 by omega]
  congr 1
  rw [List.filter_cons]
  split
  · rfl
  · rfl
theorem exS_fil {D : tD} {act ho lo k s b p : Nat} : ∀ (l : List Nat) (g : gS), exS D act ho lo k s b p (l.filter (fun S => dFits D S (rHo D ho b) (rLo D lo b))) g = exS D act ho lo k s b p l g := by
  intro l
  induction l with
  | nil => intro g; rfl
  | cons a l ih =>
    intro g
    rw [List.filter_cons]
    show _ = exS D act ho lo k s b p l (if okE D act ho lo s b p a = true then addE D g k b p a else g)
    by_cases hf : dFits D a (rHo D ho b) (rLo D lo b) = true
    · rw [if_pos hf]
      show exS D act ho lo k s b p _ (if okE D act ho lo s b p a = true then addE D g k b p a else g) = _
      rw [ih]
    · rw [if_neg hf, ih]
      have hn : ¬ okE D act ho lo s b p a = true := fun q => hf (okE_s q).1
      rw [if_neg hn]
/-- the reference's row of a boat's sets -/
def RT (I : Nat → Nat → Int) (b : Nat) (l : List Nat) : Prop := I 2996 b = l.length ∧ ∀ (i S : Nat), l[i]? = some S → I 3028 (256 * b + i) = S
section
variable {sc : mS} {d : Nat} {t : zT} {I J : Nat → Nat → Int} {Q : zR → zW → Prop} {D : tD} {ho lo : Nat}
theorem RD.sets {I' : Nat → Nat → Int} (h : RD I D ho lo) (hf : ∀ a, ¬ a = 2996 → ¬ a = 3028 → I' a = I a) : RD I' D ho lo := h.fr (fun k _ => by rw [hf 1835 (by decide) (by decide)]) (fun a ha => hf a (by omega) (by omega))
theorem k241in {b : Nat} (hd : 1 ≤ d) (hR : RD I D ho lo) (hD : dOk D) (hb : b < dB D) (hho : ho < 2147483648) (hlo : lo < 2147483648)
    (h : ∀ I', (∀ a, ¬ a = 2996 → ¬ a = 3028 → I' a = I a) → (∀ j, ¬ j = b → I' 2996 j = I 2996 j) → (∀ j, j < 256 * b ∨ 256 * b + 256 ≤ j → I' 3028 j = I 3028 j) → RT I' b (fS D ho lo b (dAll D)) → ∀ x2 : Int, Go sc d mt_241 2 [vr 1835, vi ((b : Int) + 1), vi x2] [] (z_cfg t, I', J) Q) :
    ∀ (m n : Nat) (I1 : Nat → Nat → Int), n + m = dAll D → (∀ a, ¬ a = 2996 → ¬ a = 3028 → I1 a = I a) → (∀ j, ¬ j = b → I1 2996 j = I 2996 j) → (∀ j, j < 256 * b ∨ 256 * b + 256 ≤ j → I1 3028 j = I 3028 j) → RT I1 b (fS D ho lo b n) → Go sc d mt_241 19 [vr 1835, vi (b : Int), vi ((n + 1 : Nat) : Int)] [] (z_cfg t, I1, J) Q := by
  have hA := dAll_lt hD
  have hB := hD.2.2.1
  have hbr := hD.2.2.2.2.2.2.1 b hb
  have hHo : rHo D ho b < 2147483648 := by unfold rHo; split <;> omega
  have hLo : rLo D lo b < 2147483648 := by unfold rLo; split <;> omega
  intro m
  induction m with
  | zero =>
    intro n I1 hn h1 h2 h3 hT
    have hR1 := hR.sets h1
    refine b241_19 (c222 hd (fun d' _ => k222 hR1 hD ?_))
    refine b241_24 ⟨⟨by omega, by omega⟩, ⟨by omega, by omega⟩, fun _ => ?_, fun c => by omega⟩
    have e : n = dAll D := by omega
    rw [e] at hT
    exact h I1 h1 h2 h3 hT _
  | succ m ih =>
    intro n I1 hn h1 h2 h3 hT
    have hR1 := hR.sets h1
    have hrow := hR1.2.2.2.2.2.2.1 b hb
    obtain ⟨g1, g2, g3, -⟩ := dsm hD (n + 1)
    have hlen := fS_len D ho lo b n
    have e6 : I1 1972 b = ((rHo D ho b : Nat) : Int) := hrow.1
    have e7 : I1 2004 b = ((rLo D lo b : Nat) : Int) := hrow.2.1
    refine b241_19 (c222 hd (fun d' _ => k222 hR1 hD ?_))
    refine b241_24 ⟨⟨by omega, by omega⟩, ⟨by omega, by omega⟩, fun c => by omega, fun _ => ?_⟩
    -- the set is left out
    have skip : dFits D (n + 1) (rHo D ho b) (rLo D lo b) = false → Go sc d mt_241 97 [vr 1835, vi (b : Int), vi ((n + 1 : Nat) : Int)] [] (z_cfg t, I1, J) Q := by
      intro hf
      refine b241_97 ?_
      rw [show (((n + 1 : Nat) : Int) + 1) = ((n + 1 + 1 : Nat) : Int) by omega]
      refine ih (n + 1) I1 (by omega) h1 h2 h3 ?_
      rw [fS_succ, hf, if_neg (by decide), List.append_nil]
      exact hT
    refine c228 hd (fun d' _ => k228 (S := n + 1) rfl hR1 hD (by omega) ?_)
    refine b241_32 ⟨⟨by omega, by omega⟩, fun c => skip ?_, fun c => ?_⟩
    · unfold dFits
      rw [decide_eq_false (by omega)]
      rfl
    refine c226 hd (fun d' _ => k226 (S := n + 1) (n := dT D) rfl hD.2.1 (lt_all (by omega)) ?_)
    refine b241_39 ⟨⟨by omega, by omega⟩, ?_⟩
    rw [Int.toNat_natCast, e6]
    refine ⟨⟨by omega, by omega⟩, ⟨by omega, by omega⟩, fun c2 => skip ?_, fun c2 => ?_⟩
    · unfold dFits
      rw [decide_eq_true (by omega : 0 < sm (dT D) (dRo D) (n + 1)), decide_eq_false (by omega)]
      rfl
    refine c227 hd (fun d' _ => k227 (S := n + 1) rfl hR1 hD (by omega) ?_)
    refine b241_57 ⟨⟨by omega, by omega⟩, ?_⟩
    rw [Int.toNat_natCast, e7, hT.1]
    refine ⟨⟨by omega, by omega⟩, ⟨by omega, by omega⟩, fun c3 => skip ?_, fun c3 => ⟨⟨by omega, by omega⟩, ?_⟩⟩
    · unfold dFits
      rw [decide_eq_true (by omega : 0 < sm (dT D) (dRo D) (n + 1)), decide_eq_true (by omega : sm (dT D) (fun _ => 1) (n + 1) ≤ rHo D ho b), decide_eq_false (by omega)]
      rfl
    have hf : dFits D (n + 1) (rHo D ho b) (rLo D lo b) = true := by
      unfold dFits
      rw [decide_eq_true (by omega : 0 < sm (dT D) (dRo D) (n + 1)), decide_eq_true (by omega : sm (dT D) (fun _ => 1) (n + 1) ≤ rHo D ho b), decide_eq_true (by omega : sm (dT D) (dWt D) (n + 1) ≤ rLo D lo b)]
      rfl
    rw [show ((256 * (b : Int)) + ((fS D ho lo b n).length : Int)).toNat = 256 * b + (fS D ho lo b n).length by omega]
    refine b241_97 ?_
    rw [show (((n + 1 : Nat) : Int) + 1) = ((n + 1 + 1 : Nat) : Int) by omega]
    refine ih (n + 1) _ (by omega) (fun a z1 z2 => ?_) (fun j hj => ?_) (fun j hj => ?_) ⟨?_, fun i S hi => ?_⟩
    · rw [zu_ne z1, zu_ne z2, h1 a z1 z2]
    · rw [zu_nk hj, zu_ne (by decide : ¬ 2996 = 3028), h2 j hj]
    · rw [zu_ne (by decide : ¬ 3028 = 2996), zu_nk (by omega), h3 j hj]
    · rw [zu_same, fS_succ, hf, if_pos rfl, List.length_append]
      show ((fS D ho lo b n).length : Int) + 1 = (((fS D ho lo b n).length + 1 : Nat) : Int)
      omega
    · rw [fS_succ, hf, if_pos rfl] at hi
      rw [zu_ne (by decide : ¬ 3028 = 2996), zu_at]
      by_cases e : i = (fS D ho lo b n).length
      · rw [if_pos (by omega)]
        rw [e, List.getElem?_append_right (Nat.le_refl _), Nat.sub_self] at hi
        cases hi
        rfl
      · rw [if_neg (by omega)]
        have hlt : i < (fS D ho lo b n).length := by
          have := (List.getElem?_eq_some_iff.mp hi).1
          rw [List.length_append] at this
          have : i < (fS D ho lo b n).length + 1 := this
          omega
        rw [List.getElem?_append_left hlt] at hi
        exact hT.2 i S hi
theorem k241 (hd : 1 ≤ d) (hR : RD I D ho lo) (hD : dOk D) (hho : ho < 2147483648) (hlo : lo < 2147483648)
    (h : ∀ I', (∀ a, ¬ a = 2996 → ¬ a = 3028 → I' a = I a) → (∀ b, b < dB D → RT I' b (fS D ho lo b (dAll D))) → Q (.inl none) (z_cfg t, I', J)) : Go sc d mt_241 0 [vr 1835, vn, vn] [] (z_cfg t, I, J) Q := by
  have hB := hD.2.2.1
  have loop : ∀ (m b : Nat) (I1 : Nat → Nat → Int) (v2 : zV), b + m = dB D → (∀ a, ¬ a = 2996 → ¬ a = 3028 → I1 a = I a) → (∀ c, c < b → RT I1 c (fS D ho lo c (dAll D))) → Go sc d mt_241 2 [vr 1835, vi (b : Int), v2] [] (z_cfg t, I1, J) Q := by
    intro m
    induction m with
    | zero =>
      intro b I1 v2 hb h1 hT
      have hR1 := hR.sets h1
      refine b241_2 ?_
      rw [hR1.2.2.1]
      exact ⟨⟨by omega, by omega⟩, ⟨by omega, by omega⟩, fun c => by omega, fun _ => h I1 h1 (fun b' hb' => hT b' (by omega))⟩
    | succ m ih =>
      intro b I1 v2 hb h1 hT
      have hR1 := hR.sets h1
      refine b241_2 ?_
      rw [hR1.2.2.1, Int.toNat_natCast]
      refine ⟨⟨by omega, by omega⟩, ⟨by omega, by omega⟩, fun _ => ⟨⟨by omega, by omega⟩, ?_⟩, fun c => by omega⟩
      have f0 : ∀ a, ¬ a = 2996 → z_u I1 2996 b 0 a = I1 a := fun a ha => zu_ne ha
      have hR2 : RD (z_u I1 2996 b 0) D ho lo := hR1.sets (fun a z1 z2 => f0 a z1)
      refine k241in (b := b) hd hR2 hD (by omega) hho hlo (fun I' g1 g2 g3 g4 x2 => ?_) (dAll D) 0 _ (by omega) (fun _ _ _ => rfl) (fun _ _ => rfl) (fun _ _ => rfl) ⟨by rw [zu_same]; rfl, fun i S hi => by cases hi⟩
      rw [show (b : Int) + 1 = ((b + 1 : Nat) : Int) by omega]
      refine ih (b + 1) I' _ (by omega) (fun a z1 z2 => ?_) (fun c hc => ?_)
      · rw [g1 a z1 z2, f0 a z1, h1 a z1 z2]
      · by_cases e : c = b
        · rw [e]; exact g4
        · have hTc := hT c (by omega)
          have hl := fS_len D ho lo c (dAll D)
          have hA := dAll_lt hD
          refine ⟨?_, fun i S hi => ?_⟩
          · rw [g2 c e, zu_nk e]; exact hTc.1
          · have := (List.getElem?_eq_some_iff.mp hi).1
            rw [g3 _ (by omega), f0 3028 (by decide)]
            exact hTc.2 i S hi
  exact b241_0 (loop (dB D) 0 I vn (by omega) (fun _ _ _ => rfl) (fun c hc => by omega))
end
