/-! ===== the first shortest way, as a row of crossings: pure; the class: keep ===== -/
def wyL (D : tD) (g : gS) (tm : Bool) (T : Nat → Int) (f k : Nat) : List Nat := match f with
  | 0 => []
  | f + 1 => match nxE D g tm T k with
    | some e => e :: wyL D g tm T f (tg g e)
    | none => []
/-- boat, shore, set -/
def e3 (g : gS) (e : Nat) : Nat × Nat × Nat := ((gE g e).1, (gE g e).2.1, (gE g e).2.2.1)
def c3 (c : Nat × Nat × Nat) : Nat := (c.1 * 4 + c.2.1) * 256 + c.2.2
def mins (D : tD) (l : List (Nat × Nat × Nat)) : Nat := (l.map (fun c => mx (dT D) (dMi D) c.2.2)).sum
section
variable {D : tD} {g : gS} {tm : Bool} {T : Nat → Int} {k e : Nat}
theorem nx_some (h : nxE D g tm T k = some e) : eIn g k e ∧ 0 ≤ T (tg g e) ∧ T (tg g e) + wE D tm g e = T k := by
  have h1 := List.mem_of_find?_eq_some h
  have h2 := List.find?_some h
  exact ⟨mem_eL0.mp h1, (of_decide_eq_true h2).1, (of_decide_eq_true h2).2⟩
theorem nx_pos (hT : TP D g tm T) (hk : k < gN g) (h : 0 < T k) : ∃ e, nxE D g tm T k = some e := by
  cases hn : nxE D g tm T k with
  | some e => exact ⟨e, rfl⟩
  | none =>
    obtain ⟨e, e1, e2, e3⟩ := hT.2.2.2 k hk h
    have := List.find?_eq_none.mp hn e (mem_eL0.mpr e1)
    exact absurd (decide_eq_true ⟨e2, e3.symm⟩) this
theorem nx_zero (hD : dOk D) (h : T k = 0) : nxE D g tm T k = none := by
  cases hn : nxE D g tm T k with
  | none => rfl
  | some e =>
    obtain ⟨-, h1, h2⟩ := nx_some hn
    have := wE_in hD tm g e
    omega
theorem wyL_some {f : Nat} (h : nxE D g tm T k = some e) : wyL D g tm T (f + 1) k = e :: wyL D g tm T f (tg g e) := by
  show (match nxE D g tm T k with
    | some e => e :: wyL D g tm T f (tg g e)
    | none => []) = _
  rw [h]
theorem wyL_none {f : Nat} (h : nxE D g tm T k = none) : wyL D g tm T f k = [] := by
  cases f with
  | zero => rfl
  | succ f =>
    show (match nxE D g tm T k with
    | some e => e :: wyL D g tm T f (tg g e)
    | none => []) = _
    rw [h]
end
/-- the class keeps the way l -/
def KC (I : Nat → Nat → Int) (D : tD) (l : List (Nat × Nat × Nat)) : Prop := I 1672 0 = ((l.length : Nat) : Int) ∧ I 1672 1 = ((mins D l : Nat) : Int) ∧ ∀ i c, l[i]? = some c → I 1716 i = ((c3 c : Nat) : Int)
section
variable {sc : mS} {d : Nat} {t : zT} {I J : Nat → Nat → Int} {Q : zR → zW → Prop} {D : tD}
theorem GB.to3 {I' : Nat → Nat → Int} {act : Nat} {g : gS} (h : GB t I D act g) (hf : ∀ a, a ≤ 1270 ∨ 3392 ≤ a → I' a = I a) : GB t I' D act g := by
  obtain ⟨h1, h2, h3, h4, h5, h6⟩ := h
  have hte := h1.2.2.2
  refine ⟨h1, h2.fr (hf _ (by have := zmd_lt (t_gb t); omega)) (fun k => hf _ (by have := zmf_lt (t_gb t) k; omega)), h3, h4.up (fun a ha => hf a (by omega)) (fun k _ => by rw [hf 1057 (by decide)]), h5, fun z i hi => ?_⟩
  rw [hf 1172 (by decide)]
  exact h6 z i hi
theorem RW.to3 {I' : Nat → Nat → Int} (h : RW I D) (hf : ∀ a, a ≤ 1270 ∨ 3392 ≤ a → I' a = I a) : RW I' D := fun S hS => by
  rw [hf 916 (by decide), hf 948 (by decide), hf 980 (by decide), hf 1012 (by decide)]
  exact h S hS
def FK (I I' : Nat → Nat → Int) : Prop := ∀ a, ¬ a = 1672 → ¬ a = 1716 → I' a = I a
theorem FK.o {I I' : Nat → Nat → Int} (h : FK I I') : ∀ a, a ≤ 1270 ∨ 3392 ≤ a → I' a = I a := fun a ha => h a (by omega) (by omega)
theorem ec_shr {b p S j : Nat} (hb : b < 2) (hp : p < 4) (hS : S < 256) (hj : j < 2048) : zshr ((ecC (b, p, S, j) : Nat) : Int) 11 = ((c3 (b, p, S) : Nat) : Int) := by
  have e : ecC (b, p, S, j) = ((b * 4 + p) * 256 + S) * 2048 + j := rfl
  rw [show (11 : Int) = ((11 : Nat) : Int) from rfl, zshr_n (by omega) (by omega), e]
  congr 1
  show _ = (b * 4 + p) * 256 + S
  omega
theorem c3_and {b p S : Nat} (hb : b < 2) (hp : p < 4) (hS : S < 256) : zand ((c3 (b, p, S) : Nat) : Int) 255 = ((S : Nat) : Int) := by
  have e : c3 (b, p, S) = (b * 4 + p) * 256 + S := rfl
  rw [show (255 : Int) = ((255 : Nat) : Int) from rfl, zandm 255 8 rfl (by omega) (by omega), e]
  congr 1
  omega
theorem k71 {act : Nat} {g : gS} {tm : Bool} {T : Nat → Int} (hd : 4 ≤ d) (hG : GB t I D act g) (hs : gSp g = false) (hR : RW I D) (hF : ∀ i, i < gN g → gF g i ≤ gF g (i + 1) ∧ gF g (i + 1) ≤ gM g) (h3 : I 1283 3 = ((tm.toNat : Nat) : Int)) (hZ : MZ D g tm T 0 I) (hT0 : 0 ≤ T 0)
    (h : ∀ (I' : Nat → Nat → Int), FK I I' → KC I' D ((wyL D g tm T 2000 0).map (e3 g)) → Q (.inl none) (z_cfg t, I', J)) : Go sc d mt_71 0 [vr 1672, vr 1057, vr 1283, vr 839, vn, vn] [] (z_cfg t, I, J) Q := by
  have hD := hG.2.2.1
  have hO := hG.2.2.2.2.1
  have hM := hO.2.1
  have hN := hO.1
  have hTg := gOk_tg hO hF
  have hA := dAll_lt hD
  have hB := hD.2.2.1
  have hS4 := hD.1
  have zk : ∀ I1, FK I I1 → MZ D g tm T 0 I1 := fun I1 f => hZ.to (by rw [f 1283 (by decide) (by decide)]) (f 1332 (by decide) (by decide)) (f 1460 (by decide) (by decide))
  have stR : ∀ k, k < gN g → inR (stE D g tm T k) := by
    intro k hk
    unfold stE
    cases hn : nxE D g tm T k with
    | none => exact (⟨by decide, by decide⟩ : inR (-1))
    | some e =>
      have he := (nx_some hn).1
      have hq := hO.2.2.2.2.2 e (by have := hF k hk; have := he.2; omega)
      have e : ecC (gE g e) = (((gE g e).1 * 4 + (gE g e).2.1) * 256 + (gE g e).2.2.1) * 2048 + (gE g e).2.2.2 := rfl
      exact ⟨by show _ ≤ ((_ : Nat) : Int); omega, by show ((_ : Nat) : Int) < _; omega⟩
  have loop : ∀ (m i k : Nat) (pre : List Nat) (I1 : Nat → Nat → Int), i + m = 2000 → pre.length = i → k < gN g → onW T (I 1332) 0 k → FK I I1 → KC I1 D (pre.map (e3 g)) → mins D (pre.map (e3 g)) ≤ i * 99 → wyL D g tm T 2000 0 = pre ++ wyL D g tm T m k → Go sc d mt_71 21 [vr 1672, vr 1057, vr 1283, vr 839, vi (stE D g tm T k), vi (i : Int)] [] (z_cfg t, I1, J) Q := by
    intro m
    induction m with
    | zero =>
      intro i k pre I1 hi hl hk hon f hK hm hw
      have hw : wyL D g tm T 2000 0 = pre ++ [] := hw
      rw [List.append_nil] at hw
      rw [hw] at h
      exact b71_21 ⟨⟨by omega, by omega⟩, fun c => by omega, fun _ => h I1 f hK⟩
    | succ m ih =>
      intro i k pre I1 hi hl hk hon f hK hm hw
      have hsr := stR k hk
      cases hn : nxE D g tm T k with
      | none =>
        rw [wyL_none hn, List.append_nil] at hw
        rw [hw] at h
        have e : stE D g tm T k = -1 := by unfold stE; rw [hn]
        rw [e]
        exact b71_21 ⟨⟨by omega, by omega⟩, fun _ => ⟨⟨by decide, by decide⟩, fun _ => h I1 f hK, fun c => absurd rfl c⟩, fun c => by omega⟩
      | some e =>
        obtain ⟨he, ht1, ht2⟩ := nx_some hn
        have heM : e < gM g := by have := hF k hk; have := he.2; omega
        have hq := hO.2.2.2.2.2 e heM
        have hst : stE D g tm T k = ((ecC (gE g e) : Nat) : Int) := by unfold stE; rw [hn]
        have hz : tg g e < gN g := hTg k hk e he.1 he.2
        have hon2 := ((on_step hTg hZ.2.1 hk hon he).mp ⟨ht1, ht2⟩).1
        have hmx := (dsm hD (gE g e).2.2.1).2.2.2
        rw [hst]
        rw [hst] at hsr
        refine b71_21 ⟨⟨by omega, by omega⟩, fun _ => ⟨hsr, fun c => by omega, fun _ => ⟨⟨by omega, by omega⟩, ?_⟩⟩, fun c => by omega⟩
        have ec : zshr ((ecC (gE g e) : Nat) : Int) 11 = ((c3 (e3 g e) : Nat) : Int) := ec_shr (b := (gE g e).1) (p := (gE g e).2.1) (S := (gE g e).2.2.1) (j := (gE g e).2.2.2) (by omega) (by omega) (by omega) (by omega)
        have ea : zand ((c3 (e3 g e) : Nat) : Int) 255 = (((gE g e).2.2.1 : Nat) : Int) := c3_and (b := (gE g e).1) (p := (gE g e).2.1) (S := (gE g e).2.2.1) (by omega) (by omega) (by omega)
        rw [Int.toNat_natCast, zu_same, ec, ea]
        generalize hI2 : z_u I1 1716 i ((c3 (e3 g e) : Nat) : Int) = I2
        have f2 : FK I1 I2 := fun a a1 a2 => by rw [← hI2, zu_ne a2]
        have f2' : FK I I2 := fun a a1 a2 => (f2 a a1 a2).trans (f a a1 a2)
        refine c66 (by omega) (fun d' _ => k66 rfl (hR.to3 f2'.o) hD (by omega) ?_)
        refine b71_67 ?_
        generalize hI3 : z_u (z_u I2 1672 1 (I1 1672 1 + ((mx (dT D) (dMi D) (gE g e).2.2.1 : Nat) : Int))) 1672 0 ((i : Int) + 1) = I3
        have f3 : FK I I3 := fun a a1 a2 => by rw [← hI3, zu_ne a1, zu_ne a1, f2' a a1 a2]
        refine c64 (by omega) (fun d' _ => k64g rfl hD hO heM ?_)
        refine b71_86 (c72 (by omega) (fun d' _ => k72 (s := 0) (T := T) (tm := tm) rfl (by omega) (hG.to3 f3.o) hs (hR.to3 f3.o) hF hz (by rw [f3 1283 (by decide) (by decide)]; exact h3) (zk I3 f3) (by rw [f3 1332 (by decide) (by decide)]; exact hon2) ?_))
        refine b71_89 ?_
        rw [show (i : Int) + 1 = ((i + 1 : Nat) : Int) by omega]
        have hmin : mins D ((pre ++ [e]).map (e3 g)) = mins D (pre.map (e3 g)) + mx (dT D) (dMi D) (gE g e).2.2.1 := by
          unfold mins
          rw [List.map_append, List.map_append, List.sum_append]
          rfl
        refine ih (i + 1) (tg g e) (pre ++ [e]) I3 (by omega) (by rw [List.length_append, hl]; rfl) hz hon2 f3 ⟨?_, ?_, fun q c hqc => ?_⟩ (by rw [hmin]; omega) (by rw [hw, wyL_some hn, List.append_assoc]; rfl)
        · rw [← hI3, zu_same, List.length_map, List.length_append, hl]
          show (i : Int) + 1 = ((i + 1 : Nat) : Int)
          omega
        · rw [← hI3, zu_nk (by decide : ¬ 1 = 0), zu_same, hK.2.1, hmin]
          omega
        · rw [← hI3, zu_ne (by decide : ¬ 1716 = 1672), zu_ne (by decide : ¬ 1716 = 1672), ← hI2, zu_at]
          rw [List.map_append] at hqc
          by_cases c2 : q = i
          · subst c2
            rw [if_pos rfl]
            rw [List.getElem?_append_right (by rw [List.length_map, hl]; exact Nat.le_refl _), List.length_map, hl, Nat.sub_self] at hqc
            have hqc : some (e3 g e) = some c := hqc
            cases hqc
            rfl
          · rw [if_neg c2]
            by_cases c4 : q < i
            · rw [List.getElem?_append_left (by rw [List.length_map, hl]; exact c4)] at hqc
              exact hK.2.2 q c hqc
            · rw [List.getElem?_eq_none (by rw [List.length_append, List.length_map, hl]; show i + 1 ≤ q; omega)] at hqc
              cases hqc
  refine b71_0 ?_
  generalize hI1 : z_u (z_u I 1672 0 0) 1672 1 0 = I1
  have f1 : FK I I1 := fun a a1 a2 => by rw [← hI1, zu_ne a1, zu_ne a1]
  have hL0 := hZ.2.1.2.2.2
  have hon : onW T (I 1332) 0 0 := ⟨by rw [hL0]; decide, hT0, by rw [hL0]; omega⟩
  refine c72 (by omega) (fun d' _ => k72 (k := 0) (s := 0) (T := T) (tm := tm) rfl (by omega) (hG.to3 f1.o) hs (hR.to3 f1.o) hF (by omega) (by rw [f1 1283 (by decide) (by decide)]; exact h3) (zk I1 f1) (by rw [f1 1332 (by decide) (by decide)]; exact hon) ?_)
  refine b71_16 (loop 2000 0 0 [] I1 (by omega) rfl (by omega) hon f1 ⟨by rw [← hI1]; rfl, by rw [← hI1]; rfl, fun i c hc => by cases hc⟩ (Nat.le_refl _) rfl)
/-- findWay -/
theorem k54 {x1 : Int} {g : gS} {tm : Bool} {act : Nat} {T : Nat → Int} (e1 : x1 = ((tm.toNat : Nat) : Int)) (hd : 6 ≤ d) (hG : GB t I D act g) (hsp : gSp g = false) (hR : RW I D) (hF : ∀ i, i < gN g → gF g i ≤ gF g (i + 1) ∧ gF g (i + 1) ≤ gM g) (hT : TP D g tm T) (hTr : inR (T 0)) (hb1 : inR (I 1283 1)) (hb2 : inR (I 1283 2)) (hb3 : inR (I 1283 3)) (hbb : inR (I 1057 1)) (hc : I 1283 1 = I 1057 1 → I 1283 2 = ((0 : Nat) : Int) → I 1283 3 = ((tm.toNat : Nat) : Int) → MZ D g tm T 0 I)
    (h : ∀ (I' : Nat → Nat → Int), (∀ a, ¬ (1283 ≤ a ∧ a ≤ 1460) → ¬ a = 1672 → ¬ a = 1716 → I' a = I a) → I' 1283 1 = I 1057 1 → I' 1283 2 = ((0 : Nat) : Int) → I' 1283 3 = ((tm.toNat : Nat) : Int) → MZ D g tm T 0 I' → (T 0 = -1 → I' 1672 = I 1672 ∧ I' 1716 = I 1716) → (¬ T 0 = -1 → KC I' D ((wyL D g tm T 2000 0).map (e3 g))) → Q (.inl (some (vi (if T 0 = -1 then -1 else if tm = true then ((mins D ((wyL D g tm T 2000 0).map (e3 g)) : Nat) : Int) else (((wyL D g tm T 2000 0).length : Nat) : Int))))) (z_cfg t, I', J)) :
    Go sc d mt_54 0 [vr 42, vi x1] [] (z_cfg t, I, J) Q := by
  subst e1
  have hN := hG.2.2.2.2.1.1
  refine b54_0 (c55 (by omega) (fun d' _ => k55 (s := 0) (T := T) (tm := tm) rfl rfl (by omega) hG hsp hR hF (by omega) hT hb1 hb2 hb3 hbb hc (fun I1 f1 g1 g2 g3 hZ => ?_)))
  refine b54_13 ?_
  rw [hZ.1]
  refine ⟨hTr, fun c => ?_, fun c => ?_⟩
  · have := h I1 (fun a a1 _ _ => f1 a a1) g1 g2 g3 hZ (fun _ => ⟨f1 1672 (by decide), f1 1716 (by decide)⟩) (fun z => absurd c z)
    rw [if_pos c] at this
    exact this
  · have hT1 := hT.2.1 0 (by omega)
    refine c71 (by omega) (fun d' _ => k71 (T := T) (tm := tm) (by omega) (hG.to2 f1) hsp (hR.to2 f1) hF g3 hZ (by omega) (fun I2 f2 hK => ?_))
    have := h I2 (fun a a1 a2 a3 => by rw [f2 a a2 a3, f1 a a1]) (by rw [f2 1283 (by decide) (by decide)]; exact g1) (by rw [f2 1283 (by decide) (by decide)]; exact g2) (by rw [f2 1283 (by decide) (by decide)]; exact g3) (hZ.to (by rw [f2 1283 (by decide) (by decide)]) (f2 1332 (by decide) (by decide)) (f2 1460 (by decide) (by decide))) (fun z => absurd z c) (fun _ => hK)
    rw [if_neg c] at this
    refine b54_45 ?_
    cases tm with
    | false =>
      rw [if_neg (by decide)] at this
      refine ⟨⟨by decide, by decide⟩, fun _ => ?_, fun z => absurd rfl z⟩
      rw [hK.1, List.length_map]
      exact this
    | true =>
      rw [if_pos rfl] at this
      refine ⟨⟨by decide, by decide⟩, fun z => absurd z (by decide), fun _ => ?_⟩
      rw [hK.2.1]
      exact this
end
