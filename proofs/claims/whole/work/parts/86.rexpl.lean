/-! ===== the reference: goesBy whole, explores ===== -/
theorem RV.row {I I' : Nat → Nat → Int} {D : tD} {ho lo A : Nat} (h : RV I D ho lo) (hA : 2644 < A) (hf : ∀ a, ¬ a = A → I' a = I a) : RV I' D ho lo := by
  refine ⟨h.1.fr (fun k _ => by rw [hf 1835 (by omega)]) (fun a ha => hf a (by omega)), fun S p q l z1 z2 z3 z4 z5 => ?_, h.2.2⟩
  rw [hf 2612 (by omega)]
  exact h.2.1 S p q l z1 z2 z3 z4 z5
theorem RG.to {I I' : Nat → Nat → Int} {g : gS} (h : RG I g) (e : ∀ k, k = 54 ∨ k = 55 ∨ k = 66 → I' 1835 k = I 1835 k) (hf : ∀ a, a = 2676 ∨ a = 2804 ∨ a = 2740 ∨ a = 2836 ∨ a = 2868 ∨ a = 2900 ∨ a = 2932 → I' a = I a) : RG I' g := by
  obtain ⟨h1, h2, ⟨X, T, h3, h4⟩, h5, h6⟩ := h
  refine ⟨by rw [e 66 (by omega)]; exact h1, by rw [e 55 (by omega)]; exact h2, ⟨X, T, h3.to (e 54 (by omega)) (hf 2676 (by omega)) (hf 2804 (by omega)), h4⟩, fun k hk => ?_, fun k hk => ?_⟩
  · rw [hf 2740 (by omega)]; exact h5 k hk
  · rw [hf 2836 (by omega), hf 2868 (by omega), hf 2900 (by omega), hf 2932 (by omega)]
    exact h6 k hk
theorem RC.to {I I' : Nat → Nat → Int} {g : gS} (h : RC I g) (e : ∀ k, k = 54 ∨ k = 55 ∨ k = 66 → I' 1835 k = I 1835 k) (hf : ∀ a, a = 2676 ∨ a = 2804 ∨ a = 2740 ∨ a = 2836 ∨ a = 2868 ∨ a = 2900 ∨ a = 2932 → I' a = I a) : RC I' g := by
  rcases h with ⟨h1, h2, h3, h4⟩ | ⟨h1, h2⟩
  · exact Or.inl ⟨h1, by rw [e 66 (by omega)]; exact h2, by rw [e 54 (by omega)]; exact h3, by rw [e 54 (by omega)]; exact h4⟩
  · exact Or.inr ⟨h1, h2.to e hf⟩
theorem RT.fg {I I' : Nat → Nat → Int} {b : Nat} {l : List Nat} (h : RT I b l) (hf : FG I I') : RT I' b l := by
  unfold RT
  rw [hf.1 2996 (by decide) (by decide) (by decide) (by decide) (by decide) (by decide) (by decide) (by decide) (by decide) (by decide), hf.1 3028 (by decide) (by decide) (by decide) (by decide) (by decide) (by decide) (by decide) (by decide) (by decide) (by decide)]
  exact h
section
variable {sc : mS} {d : Nat} {t : zT} {I J : Nat → Nat → Int} {Q : zR → zW → Prop} {D : tD} {ho lo : Nat}
theorem BC.next {I0 I1 I2 : Nat → Nat → Int} {act k s : Nat} {g g' : gS} (h : BC I0 D ho lo act k s I1 g) (h' : BC I1 D ho lo act k s I2 g') : BC I0 D ho lo act k s I2 g' := ⟨h.1.tr h'.1, h'.2⟩
theorem k247 {x1 x2 x3 : Int} {k b p s act : Nat} {w : Int} {g : gS} (e1 : x1 = k) (e2 : x2 = b) (e3 : x3 = p) (hd : 5 ≤ d) (hs : stOk D s) (hb : b < dB D) (hp : p < dS D) (hwo : wOk D w) (hw : I 1835 52 = w) (hact : act = acts D w) (hT : RT I b (fS D ho lo b (dAll D))) (hsp : gSp g = false) (hB : BC I D ho lo act k s I g)
    (h : ∀ I', BC I D ho lo act k s I' (exS D act ho lo k s b p (List.range' 1 (dAll D)) g) → Q (.inl none) (z_cfg t, I', J)) :
    Go sc d mt_247 0 [vr 1835, vi x1, vi x2, vi x3, vn, vn, vn, vn, vn, vn, vn, vn] [] (z_cfg t, I, J) Q := by
  subst e1 e2 e3
  have hB0 := hB
  obtain ⟨aF, aV, aC, aO, aK, aX⟩ := hB
  have hG : RG I g := by
    rcases aC with ⟨z, -⟩ | ⟨-, z⟩
    · rw [hsp] at z; cases z
    · exact z
  have hD := aV.2.2
  have hS4 := hD.1
  have hB2 := hD.2.2.1
  have hN := aO.1.1
  obtain ⟨X, T, g3, g4⟩ := hG.2.2.1
  have hsr := g4 k aK
  rw [aX] at hsr
  have hfrom : dg (X k) (8 + b) = lberth s b := by rw [hsr.2.2 (8 + b) (by omega) (by omega), lberth_eq]
  have hfl4 := lberth_lt s b
  refine b247_0 ?_
  rw [Int.toNat_natCast, (g3.2.2.1 k aK).1]
  refine ⟨⟨by omega, by omega⟩, ?_⟩
  refine c244 (by omega) (fun d' _ => k244 rfl rfl hsr.1 (by omega) ?_)
  rw [hfrom]
  refine b247_14 (c237 (by omega) (fun d' _ => k237 rfl rfl hfl4 (by omega) aV.1 ?_))
  have none0 : (∀ S, okE D act ho lo s b p S = false) → Q (.inl none) (z_cfg t, I, J) := fun hq => by
    have := h I
    rw [exS_no _ _ (fun S _ => hq S)] at this
    exact this hB0
  cases hfl : dFlow D (lberth s b) p with
  | false => exact b247_23 ⟨⟨by decide, by decide⟩, fun _ => none0 (fun S => okE_nf hfl), fun c => absurd rfl c⟩
  | true =>
    have go : (dLamp D = -1 ∨ llamp s = lberth s b) → Go sc d mt_247 47 [vr 1835, vi (k : Int), vi (b : Int), vi (p : Int), vi (X k : Int), vi (lberth s b : Int), vn, vn, vn, vn, vn, vn] [] (z_cfg t, I, J) Q := by
      intro hgo
      refine b247_47 (c245 (by omega) (fun d' _ => k245 rfl rfl aV.1 hD hsr hfl4 ?_))
      refine b247_55 (k247sets (w := w) hd hs hsr hb hp (by omega) hwo hw hact hfl hgo hT _ (fun I' hB' => h I' ?_) (fS D ho lo b (dAll D)).length 0 I g vn vn vn vn (by omega) hB0 rfl)
      have e : exS D act ho lo k s b p ((fS D ho lo b (dAll D)).drop 0) g = exS D act ho lo k s b p (List.range' 1 (dAll D)) g := by
        rw [List.drop_zero]
        exact exS_fil _ _
      rw [← e]
      exact hB'
    refine b247_23 ⟨⟨by decide, by decide⟩, fun c => absurd c (by decide), fun _ => ?_⟩
    rw [aV.1.2.2.2.2.1]
    refine ⟨lamp_in hD, fun c => go (Or.inl c), fun c => ⟨⟨by omega, by omega⟩, ?_⟩⟩
    have e20 : zand (zshr (X k : Int) 20) 3 = (dg (X k) 10 : Int) := zdg (u := 10) hsr.1 (by omega)
    have el : dg (X k) 10 = llamp s := hsr.2.2 10 (by omega) (by omega)
    rw [e20, el]
    refine ⟨fun c2 => go (Or.inr (by omega)), fun c2 => none0 (fun S => ?_)⟩
    cases hq : okE D act ho lo s b p S
    · rfl
    · exact absurd ((okE_s hq).2.2.1) (fun z => z.elim c (fun y => c2 (by rw [y])))
/-- the shores of one boat -/
theorem k240shores {k b s act : Nat} {w : Int} {I0 : Nat → Nat → Int} {x1 x2 : Int} (hd : 6 ≤ d) (hs : stOk D s) (hb : b < dB D) (hwo : wOk D w) (hw : I0 1835 52 = w) (hact : act = acts D w) (hT : RT I0 b (fS D ho lo b (dAll D))) (gF0 : gS)
    (h : ∀ (I' : Nat → Nat → Int) (x5 : Int), BC I0 D ho lo act k s I' gF0 → Go sc d mt_240 154 [vr 1835, vi x1, vi x2, vi (k : Int), vi (b : Int), vi x5] [] (z_cfg t, I', J) Q) :
    ∀ (m p : Nat) (I1 : Nat → Nat → Int) (g : gS), p + m = dS D → BC I0 D ho lo act k s I1 g → gF0 = exP D act ho lo k s b (List.range' p m) g →
      Go sc d mt_240 123 [vr 1835, vi x1, vi x2, vi (k : Int), vi (b : Int), vi (p : Int)] [] (z_cfg t, I1, J) Q := by
  intro m
  induction m with
  | zero =>
    intro p I1 g hp hB hgF
    have hD := hB.2.1.2.2
    have hS4 := hD.1
    have hgF : gF0 = g := hgF
    rw [hgF] at h
    refine b240_123 ?_
    rw [hB.2.1.1.1]
    exact ⟨⟨by omega, by omega⟩, ⟨by omega, by omega⟩, fun c => by omega, fun _ => h I1 _ hB⟩
  | succ m ih =>
    intro p I1 g hp hB hgF
    have hD := hB.2.1.2.2
    have hS4 := hD.1
    refine b240_123 ?_
    rw [hB.2.1.1.1]
    refine ⟨⟨by omega, by omega⟩, ⟨by omega, by omega⟩, fun _ => ?_, fun c => by omega⟩
    rcases hB.2.2.1 with ⟨s1, s2, s3⟩ | ⟨s1, s2⟩
    · rw [s2]
      refine ⟨⟨by decide, by decide⟩, fun c => absurd c (by decide), fun _ => ?_⟩
      rw [exP_sp s1] at hgF
      rw [hgF] at h
      exact h I1 _ hB
    · rw [s2.1]
      refine ⟨⟨by decide, by decide⟩, fun _ => ?_, fun c => absurd rfl c⟩
      rw [rng_cons] at hgF
      refine c247 (by omega) (fun d' _ => k247 (w := w) (g := g) rfl rfl rfl (by omega) hs hb (by omega) hwo (by rw [hB.1.2 52 (by decide) (by decide) (by decide)]; exact hw) hact (hT.fg hB.1) s1 ⟨FG.rf I1, hB.2⟩ (fun I' hB' => ?_))
      refine b240_148 ?_
      rw [show (p : Int) + 1 = ((p + 1 : Nat) : Int) by omega]
      exact ih (p + 1) I' _ (by omega) (hB.next hB') hgF
/-- the boats of one state -/
theorem k240boats {k s act : Nat} {w : Int} {I0 : Nat → Nat → Int} {x1 : Int} (hd : 6 ≤ d) (hs : stOk D s) (hwo : wOk D w) (hw : I0 1835 52 = w) (hact : act = acts D w) (hT : ∀ b, b < dB D → RT I0 b (fS D ho lo b (dAll D))) (gF0 : gS)
    (h : ∀ (I' : Nat → Nat → Int) (x4 : Int) (v5 : zV), BC I0 D ho lo act k s I' gF0 → Go sc d mt_240 160 [vr 1835, vi x1, vi 0, vi (k : Int), vi x4, v5] [] (z_cfg t, I', J) Q) :
    ∀ (m b : Nat) (I1 : Nat → Nat → Int) (g : gS) (v5 : zV), b + m = dB D → BC I0 D ho lo act k s I1 g → gF0 = exB D act ho lo k s (List.range' b m) g →
      Go sc d mt_240 107 [vr 1835, vi x1, vi 0, vi (k : Int), vi (b : Int), v5] [] (z_cfg t, I1, J) Q := by
  intro m
  induction m with
  | zero =>
    intro b I1 g v5 hb hB hgF
    have hB2 := hB.2.1.2.2.2.2.1
    have hgF : gF0 = g := hgF
    rw [hgF] at h
    refine b240_107 ?_
    rw [hB.2.1.1.2.2.1]
    exact ⟨⟨by omega, by omega⟩, ⟨by omega, by omega⟩, fun c => by omega, fun _ => h I1 _ _ hB⟩
  | succ m ih =>
    intro b I1 g v5 hb hB hgF
    have hB2 := hB.2.1.2.2.2.2.1
    refine b240_107 ?_
    rw [hB.2.1.1.2.2.1]
    refine ⟨⟨by omega, by omega⟩, ⟨by omega, by omega⟩, fun _ => ⟨⟨by decide, by decide⟩, fun _ => ?_, fun c => absurd rfl c⟩, fun c => by omega⟩
    rw [rng_cons] at hgF
    refine k240shores (w := w) (b := b) hd hs (by omega) (hwo) (hw) hact (hT b (by omega)) (exP D act ho lo k s b (List.range' 0 (dS D)) g) (fun I' x5 hB' => ?_) (dS D) 0 I1 g (by omega) hB rfl
    refine b240_154 ?_
    rw [show (b : Int) + 1 = ((b + 1 : Nat) : Int) by omega]
    exact ih (b + 1) I' _ _ (by omega) hB' hgF
end
