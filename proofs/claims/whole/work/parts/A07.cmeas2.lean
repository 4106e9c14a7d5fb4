/-! ===== the class: measure whole, firstStep ===== -/
set_option maxRecDepth 8000 in
theorem fN_1332 (t : zT) : z_fN (z_tab t ++ t_l t) (1331 + 1) = some 2000 := by
  obtain ⟨ts, te, tt, b1, b2, b3, b4, b5, b6⟩ := t
  rfl
set_option maxRecDepth 8000 in
theorem fN_1428 (t : zT) : z_fN (z_tab t ++ t_l t) (1427 + 1) = some 2000 := by
  obtain ⟨ts, te, tt, b1, b2, b3, b4, b5, b6⟩ := t
  rfl
/-- Paths' rows tell the shortest ways from s -/
def MZ (D : tD) (g : gS) (tm : Bool) (T : Nat → Int) (s : Nat) (I : Nat → Nat → Int) : Prop := I 1283 0 = T s ∧ MG D g tm T s (I 1332) ∧ ∀ k, k < gN g → WC D g tm T s (I 1332) (I 1460) k
theorem MZ.to {D : tD} {g : gS} {tm : Bool} {T : Nat → Int} {s : Nat} {I I' : Nat → Nat → Int} (h : MZ D g tm T s I) (h0 : I' 1283 0 = I 1283 0) (h1 : I' 1332 = I 1332) (h2 : I' 1460 = I 1460) : MZ D g tm T s I' := by
  unfold MZ
  rw [h0, h1, h2]
  exact h
/-- the first crossing of a shortest way -/
def nxE (D : tD) (g : gS) (tm : Bool) (T : Nat → Int) (k : Nat) : Option Nat := (eL0 g k).find? (fun e => decide (0 ≤ T (tg g e) ∧ T (tg g e) + wE D tm g e = T k))
def stE (D : tD) (g : gS) (tm : Bool) (T : Nat → Int) (k : Nat) : Int := match nxE D g tm T k with
  | some e => (ecC (gE g e) : Int)
  | none => -1
section
variable {sc : mS} {d : Nat} {t : zT} {I J : Nat → Nat → Int} {Q : zR → zW → Prop} {D : tD}
theorem k55 {x2 x3 : Int} {g : gS} {tm : Bool} {act s : Nat} {T : Nat → Int} (e2 : x2 = s) (e3 : x3 = ((tm.toNat : Nat) : Int)) (hd : 5 ≤ d) (hG : GB t I D act g) (hsp : gSp g = false) (hR : RW I D) (hF : ∀ i, i < gN g → gF g i ≤ gF g (i + 1) ∧ gF g (i + 1) ≤ gM g) (hs : s < gN g) (hT : TP D g tm T) (hb1 : inR (I 1283 1)) (hb2 : inR (I 1283 2)) (hb3 : inR (I 1283 3)) (hbb : inR (I 1057 1)) (hc : I 1283 1 = I 1057 1 → I 1283 2 = s → I 1283 3 = ((tm.toNat : Nat) : Int) → MZ D g tm T s I)
    (h : ∀ (I' : Nat → Nat → Int), (∀ a, ¬ (1283 ≤ a ∧ a ≤ 1460) → I' a = I a) → I' 1283 1 = I 1057 1 → I' 1283 2 = s → I' 1283 3 = ((tm.toNat : Nat) : Int) → MZ D g tm T s I' → Q (.inl none) (z_cfg t, I', J)) :
    Go sc d mt_55 0 [vr 1283, vr 1057, vi x2, vi x3, vn, vn, vn, vn] [] (z_cfg t, I, J) Q := by
  subst e2 e3
  have hD := hG.2.2.1
  have hgO := hG.2.2.2.2.1
  have hN := hgO.1.1
  have hTg := gOk_tg hgO hF
  have go28 : Go sc d mt_55 28 [vr 1283, vr 1057, vi (s : Int), vi ((tm.toNat : Nat) : Int), vn, vn, vn, vn] [] (z_cfg t, I, J) Q := by
    refine b55_28 ⟨by cases tm; exact Or.inl rfl; exact Or.inr rfl, ?_⟩
    generalize hI1 : z_u (z_u (z_u (z_u (z_u (z_u I 1283 1 (I 1057 1)) 1283 2 (s : Int)) 1283 3 ((tm.toNat : Nat) : Int)) 1283 0 (-1)) 1283 4 0) 1283 5 0 = I1
    have f0 : ∀ a, ¬ a = 1283 → I1 a = I a := fun a ha => by rw [← hI1, zu_ne ha, zu_ne ha, zu_ne ha, zu_ne ha, zu_ne ha, zu_ne ha]
    have f1 : I1 1283 1 = I 1057 1 ∧ I1 1283 2 = s ∧ I1 1283 3 = ((tm.toNat : Nat) : Int) ∧ I1 1283 0 = -1 ∧ I1 1283 4 = 0 ∧ I1 1283 5 = 0 := by
      rw [← hI1]
      exact ⟨rfl, rfl, rfl, rfl, rfl, rfl⟩
    refine k11 (a := 1331) (n := 2000) (by omega) (by decide) (fN_1332 t) (by omega) (fun I2 m1 m2 => b55_70 ?_)
    refine k11 (a := 1427) (n := 2000) (by omega) (by decide) (fN_1428 t) (by omega) (fun I3 m3 m4 => b55_78 ?_)
    refine k11 (a := 1459) (n := 2000) (by omega) (by decide) (fN_1460 t) (by omega) (fun I4 m5 m6 => b55_86 ?_)
    have n0 : ∀ a, ¬ a = 1283 → ¬ a = 1332 → ¬ a = 1428 → ¬ a = 1460 → I4 a = I a := fun a a1 a2 a3 a4 => by rw [m6 a a4, m4 a a3, m2 a a2, f0 a a1]
    have n1 : I4 1283 = I1 1283 := by rw [m6 1283 (by decide), m4 1283 (by decide), m2 1283 (by decide)]
    have nL : ∀ y, y < 2000 → I4 1332 y = 2147483647 := fun y hy => by rw [m6 1332 (by decide), m4 1332 (by decide)]; exact m1 y hy
    have nS : ∀ y, y < 2000 → I4 1428 y = -1 := fun y hy => by rw [m6 1428 (by decide)]; exact m3 y hy
    refine ⟨⟨by omega, by omega⟩, fun z => by omega, fun _ => ⟨fun _ => ?_, fun z => by omega⟩⟩
    refine c56 (by omega) (fun d' _ => k56b (n := 0) (x := s) (H := fun _ => 0) rfl (by omega) (by omega) ⟨by decide, by decide⟩ (by omega) (by rw [n1]; exact f1.2.2.2.2.2) ⟨fun i hi => by omega, fun i _ hi => by omega⟩ (fun y hy => by rw [nL y hy]; exact ⟨by decide, by decide⟩) (by rw [nL s (by omega)]; decide) (nS s (by omega)) (fun I5 hS => b55_104 ?_))
    obtain ⟨p1, p2, p3, p4, ⟨H', p5, p6⟩, p7⟩ := hS
    have no0 : ∀ y, ¬ hM 0 0 (fun _ => 0) y := fun y ⟨i, hi, _⟩ => by omega
    have hH0 : ∀ a, a < 0 + 1 → H' a = s := fun a ha => ((p6 (H' a)).mp ⟨a, ha, by omega, rfl⟩).resolve_right (no0 _)
    have Ls : I5 1332 s = 0 := by rw [p4, zrow_at]
    have hJ : DJ D g tm s I5 0 (0 + 1) (fun _ => 0) H' := by
      refine ⟨⟨p3, by rw [p2 4 (by decide), n1]; exact f1.2.2.2.2.1⟩, p5, fun j hj => by omega, fun a ha => ?_, fun j _ hj => by omega, fun j _ hj => by omega, fun y hy => ?_, fun _ j _ hj => by omega, fun j _ hj => by omega, Ls, hs, fun y hy hm => ?_⟩
      · rw [hH0 a ha, Ls]; exact ⟨hs, by omega, by omega⟩
      · by_cases q : y = s
        · exact Or.inr (Or.inr ((p6 y).mpr (Or.inl q)))
        · exact Or.inl ⟨by rw [p4, zrow_ne q]; exact nL y hy, by rw [p7 y q (no0 y)]; exact nS y hy⟩
      · rcases hm with z | z
        · exact absurd z (no0 y)
        · exact absurd (((p6 y).mp z).resolve_right (no0 y)) hy
    have o5 : ∀ a, ¬ (1283 ≤ a ∧ a ≤ 1460) → I5 a = I a := fun a ha => by rw [p1 a (by omega) (by omega) (by omega) (by omega), n0 a (by omega) (by omega) (by omega) (by omega)]
    have k5 : ∀ k, ¬ k = 5 → I5 1283 k = I1 1283 k := fun k hk => by rw [p2 k hk, n1]
    refine k55loop (s := s) (tm := tm) (act := act) (by omega) (hG.to2 o5) hsp (hR.to2 o5) (by rw [k5 3 (by decide)]; exact f1.2.2.1) hF (fun I6 i O H v5 v6 v7 hJ6 hX6 hL6 hQ6 => ?_) (gN g) 0 (0 + 1) (fun _ => 0) H' I5 vn vn vn (by omega) hJ (fun j hj => by omega) (Or.inl ⟨by rw [k5 0 (by decide)]; exact f1.2.2.2.1, fun j hj => by omega⟩) (FQ.rf _)
    have o6 : ∀ a, ¬ (1283 ≤ a ∧ a ≤ 1460) → I6 a = I a := fun a ha => by rw [hQ6.o a ha, o5 a ha]
    have hl := pot_least hD hN hTg hT hJ6 hX6 hL6
    have hMG := pot_MG hD hN hTg hT hJ6 hX6
    have hr6 := hJ6.room
    have hTr : inR (T s) := by
      rw [← hl]
      rcases hL6 with ⟨e, -⟩ | ⟨j, hj, -, e, -⟩
      · rw [e]; exact ⟨by decide, by decide⟩
      · rw [e]; exact hJ6.inR (by omega) _ (by have := (hJ6.2.2.1 j hj).2.1; omega)
    have w6 : ∀ y, y < 2000 → I6 1460 y = 0 := fun y hy => by
      rw [hQ6.1 1460 (by decide) (by decide) (by decide) (by decide) (by decide), p1 1460 (by decide) (by decide) (by decide) (by decide)]
      exact m5 y hy
    refine b55_236 (c67 (by omega) (fun d' _ => k67 (tm := tm) (by omega) (hG.to2 o6) hsp (hR.to2 o6) hF (by rw [hQ6.2 3 (by decide) (by decide) (by decide), k5 3 (by decide)]; exact f1.2.2.1) hT hJ6 hMG hl hTr w6 (fun I7 hW7 hwc => b55_241 ?_)))
    have kk : ∀ k, ¬ k = 0 → ¬ k = 4 → ¬ k = 5 → I7 1283 k = I1 1283 k := fun k a1 a2 a3 => by rw [hW7 1283 (by decide), hQ6.2 k a1 a2 a3, k5 k a3]
    refine h I7 (fun a ha => by rw [hW7 a (by omega), o6 a ha]) (by rw [kk 1 (by decide) (by decide) (by decide)]; exact f1.1) (by rw [kk 2 (by decide) (by decide) (by decide)]; exact f1.2.1) (by rw [kk 3 (by decide) (by decide) (by decide)]; exact f1.2.2.1) ⟨by rw [hW7 1283 (by decide)]; exact hl, by rw [hW7 1332 (by decide)]; exact hMG, fun k hk => by rw [hW7 1332 (by decide)]; exact hwc k hk⟩
  have x3 : inR ((tm.toNat : Nat) : Int) := by cases tm <;> exact ⟨by decide, by decide⟩
  exact b55_0 ⟨hb1, hbb, fun c1 => ⟨hb2, ⟨by omega, by omega⟩, fun c2 => ⟨hb3, x3, fun c3 => h I (fun _ _ => rfl) c1 c2 c3 (hc c1 c2 c3), fun _ => go28⟩, fun _ => go28⟩, fun _ => go28⟩
theorem find_cons {α : Type} {p : α → Bool} {a : α} {l : List α} : (a :: l).find? p = if p a = true then some a else l.find? p := by
  cases h : p a with
  | true => rw [List.find?_cons_of_pos h, if_pos rfl]
  | false => rw [List.find?_cons_of_neg (by rw [h]; exact Bool.false_ne_true), if_neg Bool.false_ne_true]
theorem k72 {x2 : Int} {act k s : Nat} {g : gS} {tm : Bool} {T : Nat → Int} (e2 : x2 = k) (hd : 3 ≤ d) (hG : GB t I D act g) (hs : gSp g = false) (hR : RW I D) (hF : ∀ i, i < gN g → gF g i ≤ gF g (i + 1) ∧ gF g (i + 1) ≤ gM g) (hk : k < gN g) (h3 : I 1283 3 = ((tm.toNat : Nat) : Int)) (hZ : MZ D g tm T s I) (hon : onW T (I 1332) s k) (h : Q (.inl (some (vi (stE D g tm T k)))) (z_cfg t, I, J)) : Go sc d mt_72 0 [vr 1283, vr 1057, vi x2, vn] [] (z_cfg t, I, J) Q := by
  subst e2
  have hD := hG.2.2.1
  have hO := hG.2.2.2.2.1
  have hM := hO.2.1
  have hN := hO.1.1
  have hFk := hF k hk
  have hTg := gOk_tg hO hF
  obtain ⟨-, hMG, hWC⟩ := hZ
  have hLk := hMG.1 k hk hon.1
  have loop : ∀ (m e : Nat), gF g k ≤ e → e + m = gF g (k + 1) → nxE D g tm T k = (List.range' e m).find? (fun e => decide (0 ≤ T (tg g e) ∧ T (tg g e) + wE D tm g e = T k)) → Go sc d mt_72 6 [vr 1283, vr 1057, vi (k : Int), vi (e : Int)] [] (z_cfg t, I, J) Q := by
    intro m
    induction m with
    | zero =>
      intro e hlo he hx
      refine b72_6 (c62 (by omega) (fun d' _ => k62 (k := k + 1) (by omega) hG hs (by omega) ?_))
      refine b72_14 ⟨⟨by omega, by omega⟩, ⟨by omega, by omega⟩, fun c => by omega, fun _ => ?_⟩
      have hx : nxE D g tm T k = none := hx
      unfold stE at h
      rw [hx] at h
      exact h
    | succ m ih =>
      intro e hlo he hx
      rw [rng_cons, find_cons] at hx
      have hin : eIn g k e := ⟨hlo, by omega⟩
      have hj : tg g e < gN g := (hO.2.2.2.2.2 e (by omega)).2.2.2
      have hwE := wE_in hD tm g e
      have h1 := hMG.2.1 k e hk hon.1 hin
      have h2 := hMG.1 _ hj h1.1
      have hwc := hWC _ hj
      have hwr : inR (I 1460 (tg g e)) := by
        rcases Classical.em (onW T (I 1332) s (tg g e)) with z | z
        · have := hwc.1 z
          exact ⟨by omega, by omega⟩
        · rw [hwc.2 z]; exact ⟨by decide, by decide⟩
      have iff : (0 < I 1460 (tg g e) ∧ I 1332 (tg g e) = I 1332 k + wE D tm g e) ↔ (0 ≤ T (tg g e) ∧ T (tg g e) + wE D tm g e = T k) := by
        rw [on_step hTg hMG hk hon hin]
        constructor
        · rintro ⟨a, b⟩
          refine ⟨?_, b⟩
          rcases Classical.em (onW T (I 1332) s (tg g e)) with z | z
          · exact z
          · have := hwc.2 z; omega
        · rintro ⟨a, b⟩
          exact ⟨by have := (hwc.1 a).1; omega, b⟩
      refine b72_6 (c62 (by omega) (fun d' _ => k62 (k := k + 1) (by omega) hG hs (by omega) ?_))
      refine b72_14 ⟨⟨by omega, by omega⟩, ⟨by omega, by omega⟩, fun _ => ?_, fun c => by omega⟩
      refine c63 (by omega) (fun d' _ => k63 rfl hG hs (by omega) ?_)
      refine b72_25 (c69 (by omega) (fun d' _ => k69 (e := e) rfl rfl (by omega) hR hD hO (by omega) hk h3 ⟨by omega, by omega⟩ ⟨by omega, by omega⟩ hwr ?_))
      by_cases c : 0 ≤ T (tg g e) ∧ T (tg g e) + wE D tm g e = T k
      · rw [if_pos (iff.mpr c)]
        rw [if_pos (decide_eq_true c)] at hx
        unfold stE at h
        rw [hx] at h
        refine b72_28 ⟨⟨by decide, by decide⟩, fun z => absurd z (by decide), fun _ => ?_⟩
        refine c63 (by omega) (fun d' _ => k63 rfl hG hs (by omega) ?_)
        exact b72_36 h
      · rw [if_neg (fun z => c (iff.mp z))]
        rw [if_neg (by rw [decide_eq_false c]; exact Bool.false_ne_true)] at hx
        refine b72_28 ⟨⟨by decide, by decide⟩, fun _ => ?_, fun z => absurd rfl z⟩
        rw [show (e : Int) + 1 = ((e + 1 : Nat) : Int) by omega]
        exact ih (e + 1) (by omega) (by omega) hx
  refine b72_0 (c62 (by omega) (fun d' _ => k62 rfl hG hs (by omega) ?_))
  exact b72_5 (loop (gF g (k + 1) - gF g k) (gF g k) (Nat.le_refl _) (by omega) rfl)
end
