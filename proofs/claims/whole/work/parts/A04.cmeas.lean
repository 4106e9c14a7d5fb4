/-! ===== the class: measure's loops ===== -/
section
variable {sc : mS} {d : Nat} {t : zT} {I J : Nat → Nat → Int} {Q : zR → zW → Prop} {D : tD}
theorem GB.to2 {I' : Nat → Nat → Int} {act : Nat} {g : gS} (h : GB t I D act g) (hf : ∀ a, ¬ (1283 ≤ a ∧ a ≤ 1460) → I' a = I a) : GB t I' D act g := by
  obtain ⟨h1, h2, h3, h4, h5, h6⟩ := h
  have hte := h1.2.2.2
  refine ⟨h1, h2.fr (hf _ (by have := zmd_lt (t_gb t); omega)) (fun k => hf _ (by have := zmf_lt (t_gb t) k; omega)), h3, h4.up (fun a ha => hf a (by omega)) (fun k _ => by rw [hf 1057 (by decide)]), h5, fun z i hi => ?_⟩
  rw [hf 1172 (by decide)]
  exact h6 z i hi
theorem RW.to2 {I' : Nat → Nat → Int} (h : RW I D) (hf : ∀ a, ¬ (1283 ≤ a ∧ a ≤ 1460) → I' a = I a) : RW I' D := fun S hS => by
  rw [hf 916 (by decide), hf 948 (by decide), hf 980 (by decide), hf 1012 (by decide)]
  exact h S hS
theorem FQ.o {I I' : Nat → Nat → Int} (h : FQ I I') : ∀ a, ¬ (1283 ≤ a ∧ a ≤ 1460) → I' a = I a := fun a ha => h.1 a (by omega) (by omega) (by omega) (by omega) (by omega)
theorem k65 {x2 : Int} {act e : Nat} {g : gS} {tm : Bool} (e2 : x2 = ecC (gE g e)) (hd : 1 ≤ d) (hR : RW I D) (hD : dOk D) (hO : gOk D act g) (he : e < gM g) (h3 : I 1283 3 = ((tm.toNat : Nat) : Int)) (h : Q (.inl (some (vi (wE D tm g e)))) (z_cfg t, I, J)) : Go sc d mt_65 0 [vr 1283, vr 1057, vi x2, vn] [] (z_cfg t, I, J) Q := by
  subst e2
  have hq := hO.2.2.2.2.2 e he
  have hN := hO.1.1
  have hA := dAll_lt hD
  have hB := hD.2.2.1
  have hS4 := hD.1
  have hm := (dsm hD (gE g e).2.2.1).2.2.2
  refine b65_0 ?_
  rw [h3]
  cases tm with
  | false =>
    refine ⟨⟨by decide, by decide⟩, fun _ => h, fun c => absurd rfl c⟩
  | true =>
    refine ⟨⟨by decide, by decide⟩, fun c => absurd c (by decide), fun _ => ?_⟩
    have eq : ecC (gE g e) = (((gE g e).1 * 4 + (gE g e).2.1) * 256 + (gE g e).2.2.1) * 2048 + (gE g e).2.2.2 := rfl
    have e3 : zand (zshr ((ecC (gE g e) : Nat) : Int) 11) 255 = (((gE g e).2.2.1 : Nat) : Int) := by
      rw [show (11 : Int) = ((11 : Nat) : Int) from rfl, zshr_n (by omega) (by omega), show (255 : Int) = ((255 : Nat) : Int) from rfl, zandm 255 8 rfl (by omega) (by omega), eq]
      congr 1
      omega
    rw [e3]
    refine c66 hd (fun d' _ => k66 rfl hR hD (by omega) ?_)
    refine b65_26 ?_
    rw [show (12 : Int) = ((12 : Nat) : Int) from rfl, zshl_n (by omega) (by omega)]
    exact h
/-- the crossings of the first c settled ones have been looked at -/
def RX (D : tD) (g : gS) (tm : Bool) (I : Nat → Nat → Int) (c : Nat) (O : Nat → Nat) : Prop := ∀ j, j < c → ∀ e, eIn g (O j) e → I 1332 (tg g e) ≤ I 1332 (O j) + wE D tm g e
/-- the first goal that was settled -/
def LI (D : tD) (g : gS) (I : Nat → Nat → Int) (i : Nat) (O : Nat → Nat) : Prop := (I 1283 0 = -1 ∧ ∀ j, j < i → dGoal D (gX g (O j)) = false) ∨ ∃ j, j < i ∧ dGoal D (gX g (O j)) = true ∧ I 1283 0 = I 1332 (O j) ∧ ∀ j', j' < j → dGoal D (gX g (O j')) = false
theorem DJ.fld {g : gS} {tm : Bool} {s i n : Nat} {O H : Nat → Nat} {I' : Nat → Nat → Int} (h : DJ D g tm s I i n O H) (hf : ∀ a, ¬ a = 1283 → I' a = I a) (h4 : I' 1283 4 = I 1283 4) (h5 : I' 1283 5 = I 1283 5) : DJ D g tm s I' i n O H := by
  unfold DJ
  rw [h4, h5, hf 1396 (by decide), hf 1428 (by decide), hf 1332 (by decide), hf 1364 (by decide)]
  exact h
theorem k55edges {g : gS} {tm : Bool} {act s i : Nat} {O : Nat → Nat} {x2 x3 : Int} {I0 : Nat → Nat → Int} (hd : 3 ≤ d) (hG : GB t I0 D act g) (hs : gSp g = false) (hW : RW I0 D) (h3 : I0 1283 3 = ((tm.toNat : Nat) : Int)) (hF : ∀ i, i < gN g → gF g i ≤ gF g (i + 1) ∧ gF g (i + 1) ≤ gM g)
    (k : ∀ (I1 : Nat → Nat → Int) (n : Nat) (H : Nat → Nat) (v6 v7 : zV), DJ D g tm s I1 (i + 1) n O H → RX D g tm I1 (i + 1) O → FQ I I1 → I1 1283 0 = I 1283 0 → (∀ j, j < i + 1 → I1 1332 (O j) = I 1332 (O j)) → Go sc d mt_55 107 [vr 1283, vr 1057, vi x2, vi x3, vi ((i : Int) + 1), vi (O i : Int), v6, v7] [] (z_cfg t, I1, J) Q) (hFI : FQ I0 I) :
    ∀ (m e n : Nat) (H : Nat → Nat) (I1 : Nat → Nat → Int) (v7 : zV), e + m = gF g (O i + 1) → gF g (O i) ≤ e → DJ D g tm s I1 (i + 1) n O H → RX D g tm I1 i O → (∀ e', gF g (O i) ≤ e' → e' < e → I1 1332 (tg g e') ≤ I1 1332 (O i) + wE D tm g e') → FQ I I1 → I1 1283 0 = I 1283 0 → (∀ j, j < i + 1 → I1 1332 (O j) = I 1332 (O j)) → Go sc d mt_55 180 [vr 1283, vr 1057, vi x2, vi x3, vi (i : Int), vi (O i : Int), vi (e : Int), v7] [] (z_cfg t, I1, J) Q := by
  have hD := hG.2.2.1
  have hO := hG.2.2.2.2.1
  have hM := hO.2.1
  have hN := hO.1.1
  intro m
  induction m with
  | zero =>
    intro e n H I1 v7 he hlo hJ hX hpart hQ h0 hk
    have hOi := hJ.2.2.1 i (by omega)
    have hG1 := hG.to2 (hFI.tr hQ).o
    have hFk := hF _ hOi.2.1
    refine b55_180 (c62 (by omega) (fun d' _ => k62 (k := O i + 1) (by omega) hG1 hs (by omega) ?_))
    refine b55_190 ⟨⟨by omega, by omega⟩, ⟨by omega, by omega⟩, fun c => by omega, fun _ => ?_⟩
    refine k I1 n H _ _ hJ (fun j hj e' he' => ?_) hQ h0 hk
    by_cases c : j = i
    · subst c
      exact hpart e' he'.1 (by have := he'.2; omega)
    · exact hX j (by omega) e' he'
  | succ m ih =>
    intro e n H I1 v7 he hlo hJ hX hpart hQ h0 hk
    have hOi := hJ.2.2.1 i (by omega)
    have hG1 := hG.to2 (hFI.tr hQ).o
    have hW1 := hW.to2 (hFI.tr hQ).o
    have hFk := hF _ hOi.2.1
    have hj := (hO.2.2.2.2.2 e (by omega)).2.2.2
    refine b55_180 (c62 (by omega) (fun d' _ => k62 (k := O i + 1) (by omega) hG1 hs (by omega) ?_))
    refine b55_190 ⟨⟨by omega, by omega⟩, ⟨by omega, by omega⟩, fun _ => ?_, fun c => by omega⟩
    refine c63 (by omega) (fun d' _ => k63 rfl hG1 hs (by omega) ?_)
    refine b55_199 (c64 (by omega) (fun d' _ => k64g rfl hD hO (by omega) ?_))
    refine b55_207 (c284 (by omega) (fun d' _ => k284 (x := O i) rfl (by omega) ?_))
    refine b55_213 (c65 (by omega) (fun d' _ => k65 rfl (by omega) hW1 hD hO (by omega) (by rw [(hFI.tr hQ).2 3 (by decide) (by decide) (by decide)]; exact h3) ?_))
    refine b55_220 (c56 (by omega) (fun d' _ => k56 (e := e) rfl rfl (by omega) hD hJ hN ⟨hlo, by omega⟩ hj (fun I2 n2 H2 g1 g2 g3 g4 g5 g6 => ?_)))
    refine b55_224 ?_
    rw [show (e : Int) + 1 = ((e + 1 : Nat) : Int) by omega]
    refine ih (e + 1) n2 H2 I2 _ (by omega) (by omega) g1 (fun j hj e' he' => ?_) (fun e' h1 h2 => ?_) (hQ.tr g5) (g6.trans h0) (fun j hj => (g3 j hj).trans (hk j hj))
    · have := hX j hj e' he'
      have := g2 (tg g e')
      rw [g3 j (by omega)]
      omega
    · by_cases c : e' = e
      · rw [c, g3 i (by omega)]; exact g4
      · have := hpart e' h1 (by omega)
        have := g2 (tg g e')
        rw [g3 i (by omega)]
        omega
theorem k55loop {g : gS} {tm : Bool} {act s : Nat} {x2 x3 : Int} (hd : 3 ≤ d) (hG : GB t I D act g) (hs : gSp g = false) (hW : RW I D) (h3 : I 1283 3 = ((tm.toNat : Nat) : Int)) (hF : ∀ i, i < gN g → gF g i ≤ gF g (i + 1) ∧ gF g (i + 1) ≤ gM g)
    (k : ∀ (I1 : Nat → Nat → Int) (i : Nat) (O H : Nat → Nat) (v5 v6 v7 : zV), DJ D g tm s I1 i 0 O H → RX D g tm I1 i O → LI D g I1 i O → FQ I I1 → Go sc d mt_55 236 [vr 1283, vr 1057, vi x2, vi x3, vi (i : Int), v5, v6, v7] [] (z_cfg t, I1, J) Q) :
    ∀ (m i n : Nat) (O H : Nat → Nat) (I1 : Nat → Nat → Int) (v5 v6 v7 : zV), i + m = gN g → DJ D g tm s I1 i n O H → RX D g tm I1 i O → LI D g I1 i O → FQ I I1 → Go sc d mt_55 107 [vr 1283, vr 1057, vi x2, vi x3, vi (i : Int), v5, v6, v7] [] (z_cfg t, I1, J) Q := by
  have hD := hG.2.2.1
  have hO := hG.2.2.2.2.1
  have hN := hO.1.1
  intro m
  induction m with
  | zero =>
    intro i n O H I1 v5 v6 v7 hi hJ hX hL hQ
    have hr := hJ.room
    have hn : n = 0 := by omega
    subst hn
    refine b55_107 ?_
    rw [hJ.1.1]
    exact ⟨⟨by omega, by omega⟩, fun _ => ⟨⟨by decide, by decide⟩, fun c => absurd c (by decide), fun _ => k I1 i O H _ _ _ hJ hX hL hQ⟩, fun _ => k I1 i O H _ _ _ hJ hX hL hQ⟩
  | succ m ih =>
    intro i n O H I1 v5 v6 v7 hi hJ hX hL hQ
    have hr := hJ.room
    have hG1 := hG.to2 hQ.o
    cases n with
    | zero =>
      refine b55_107 ?_
      rw [hJ.1.1]
      exact ⟨⟨by omega, by omega⟩, fun _ => ⟨⟨by decide, by decide⟩, fun c => absurd c (by decide), fun _ => k I1 i O H _ _ _ hJ hX hL hQ⟩, fun _ => k I1 i O H _ _ _ hJ hX hL hQ⟩
    | succ n =>
      refine b55_107 ?_
      rw [hJ.1.1]
      refine ⟨⟨by omega, by omega⟩, fun _ => ⟨⟨by omega, by omega⟩, fun _ => ?_, fun c => by omega⟩, fun c => by omega⟩
      refine c59 (by omega) (fun d' _ => k59 (by omega) (by omega) hJ.1.1 hJ.2.1 (hJ.inR (by omega)) (fun I' H' q1 q2 q3 q4 q5 q6 => ?_))
      have hH0 := (hJ.2.2.2.1 0 (by omega))
      have z0 : I' 1283 0 = I1 1283 0 := q2 0 (by decide)
      have zL : I' 1332 = I1 1332 := q1 1332 (by decide) (by decide) (by decide)
      have r0 : inR (I' 1283 0) := by
        rw [z0]
        rcases hL with ⟨e, -⟩ | ⟨j, hj, -, e, -⟩
        · rw [e]; exact ⟨by decide, by decide⟩
        · rw [e]; exact hJ.inR (by omega) _ (by have := (hJ.2.2.1 j hj).2.1; omega)
      refine b55_126 ?_
      rw [Int.toNat_natCast, show (i : Int) + 1 = ((i + 1 : Nat) : Int) by omega]
      refine ⟨⟨by omega, by omega⟩, r0, ?_⟩
      generalize hI2 : z_u (z_u I' 1364 i (H 0 : Int)) 1283 4 ((i + 1 : Nat) : Int) = I2
      have r1 : ∀ a, ¬ a = 1283 → ¬ a = 1364 → I2 a = I' a := fun a a1 a2 => by rw [← hI2, zu_ne a1, zu_ne a2]
      have r2 : I2 1364 = z_row (I' 1364) i (H 0 : Int) := by rw [← hI2, zu_ne (by decide : ¬ 1364 = 1283), zu_row]
      have r3 : I2 1283 4 = ((i + 1 : Nat) : Int) := by rw [← hI2, zu_same]
      have rk : ∀ q, ¬ q = 4 → I2 1283 q = I' 1283 q := fun q hq => by rw [← hI2, zu_nk hq, zu_ne (by decide : ¬ 1283 = 1364)]
      have hJ2 : DJ D g tm s I2 (i + 1) n (upN O i (H 0)) H' := DJ.take hJ q1 q3 q4 q5 q6 r1 r2 r3 (rk 5 (by decide))
      have eL : I2 1332 = I1 1332 := by rw [r1 1332 (by decide) (by decide), zL]
      have hQ2 : FQ I1 I2 := ⟨fun a a1 a2 a3 a4 a5 => by rw [r1 a a3 a5, q1 a a1 a2 a3], fun q a1 a2 a3 => by rw [rk q a2, q2 q a3]⟩
      have Oo : ∀ j, j < i → upN O i (H 0) j = O j := fun j hj => upN_ne (by omega)
      have Oi : upN O i (H 0) i = H 0 := upN_at _ _ _
      have hX2 : RX D g tm I2 i (upN O i (H 0)) := fun j hj e he => by
        rw [Oo j hj] at he ⊢
        rw [eL]
        exact hX j hj e he
      have from173 : ∀ (I3 : Nat → Nat → Int), (∀ a, ¬ a = 1283 → I3 a = I2 a) → (∀ q, ¬ q = 0 → I3 1283 q = I2 1283 q) → LI D g I3 (i + 1) (upN O i (H 0)) → Go sc d mt_55 172 [vr 1283, vr 1057, vi x2, vi x3, vi (i : Int), vi (H 0 : Int), v6, v7] [] (z_cfg t, I3, J) Q := by
        intro I3 u1 u2 hL3
        have hQ3 : FQ I2 I3 := ⟨fun a _ _ a3 _ _ => u1 a a3, fun q a1 _ _ => u2 q a1⟩
        have hQ13 := hQ.tr (hQ2.tr hQ3)
        have hJ3 := hJ2.fld u1 (u2 4 (by decide)) (u2 5 (by decide))
        have eL3 : I3 1332 = I2 1332 := u1 1332 (by decide)
        have hFk := hF _ hH0.1
        refine b55_172 (c62 (by omega) (fun d' _ => k62 rfl (hG.to2 hQ13.o) hs (by omega) ?_))
        refine b55_178 ?_
        have := k55edges (sc := sc) (d := d) (J := J) (Q := Q) (x2 := x2) (x3 := x3) (s := s) (i := i) (O := upN O i (H 0)) (I := I3) hd hG hs hW h3 hF (fun I4 n4 H4 w6 w7 g1 g2 g3 g4 g5 => by
          rw [Oi, show (i : Int) + 1 = ((i + 1 : Nat) : Int) by omega]
          refine ih (i + 1) n4 _ H4 I4 _ _ _ (by omega) g1 g2 ?_ (hQ13.tr g3)
          rcases hL3 with ⟨y1, y2⟩ | ⟨j, y1, y2, y3, y4⟩
          · exact Or.inl ⟨g4.trans y1, y2⟩
          · exact Or.inr ⟨j, y1, y2, by rw [g4, y3, g5 j y1], y4⟩) hQ13 (gF g (H 0 + 1) - gF g (H 0)) (gF g (H 0)) n H' I3 v7
        rw [Oi] at this
        refine this (by omega) (Nat.le_refl _) hJ3 (fun j hj e he => ?_) (fun e' y1 y2 => by omega) (FQ.rf _) rfl (fun _ _ => rfl)
        rw [eL3]
        exact hX2 j hj e he
      have LI_old : (∃ j, j < i ∧ dGoal D (gX g (O j)) = true ∧ I1 1283 0 = I1 1332 (O j) ∧ ∀ j', j' < j → dGoal D (gX g (O j')) = false) → LI D g I2 (i + 1) (upN O i (H 0)) := by
        rintro ⟨j, y1, y2, y3, y4⟩
        exact Or.inr ⟨j, by omega, by rw [Oo j y1]; exact y2, by rw [rk 0 (by decide), z0, eL, Oo j y1]; exact y3, fun j' hj' => by rw [Oo j' (by omega)]; exact y4 j' hj'⟩
      refine ⟨fun c => ?_, fun c => ?_⟩
      · have hL' : ∀ j, j < i → dGoal D (gX g (O j)) = false := by
          rcases hL with ⟨-, y⟩ | ⟨j, y1, -, y3, -⟩
          · exact y
          · rw [z0, y3] at c
            have := (hJ.2.2.1 j y1).2.2.1
            omega
        refine c61 (by omega) (fun d' _ => k61 rfl (by omega) (hG.to2 (hQ.tr hQ2).o) hs hH0.1 ?_)
        cases hg : dGoal D (gX g (H 0)) with
        | false =>
          refine b55_159 ⟨⟨by decide, by decide⟩, fun _ => from173 I2 (fun _ _ => rfl) (fun _ _ => rfl) (Or.inl ⟨by rw [rk 0 (by decide)]; exact c, fun j hj => ?_⟩), fun z => absurd rfl z⟩
          by_cases q : j = i
          · rw [q, Oi]; exact hg
          · rw [Oo j (by omega)]; exact hL' j (by omega)
        | true =>
          refine b55_159 ⟨⟨by decide, by decide⟩, fun z => absurd z (by decide), fun _ => c284 (by omega) (fun d' _ => k284 (x := H 0) rfl (by omega) (b55_169 ?_))⟩
          refine from173 _ (fun a ha => zu_ne ha) (fun q hq => zu_nk hq) (Or.inr ⟨i, by omega, by rw [Oi]; exact hg, ?_, fun j hj => by rw [Oo j hj]; exact hL' j hj⟩)
          rw [zu_same, zu_ne (by decide : ¬ 1332 = 1283), Oi]
      · refine from173 I2 (fun _ _ => rfl) (fun _ _ => rfl) (LI_old ?_)
        rcases hL with ⟨y, -⟩ | y
        · rw [z0] at c; exact absurd y c
        · exact y
end
