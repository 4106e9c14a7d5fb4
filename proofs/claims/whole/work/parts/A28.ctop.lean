/-! ===== the class: fewest, quickest, ways, reached, hint ===== -/
noncomputable def wL (D : tD) (tm : Bool) : List (Nat × Nat × Nat) := (wyL D (G0 D) tm (TT D tm) 2000 0).map (e3 (G0 D))
noncomputable def kpN (D : tD) (tm : Bool) (K : Option (List (Nat × Nat × Nat))) : Option (List (Nat × Nat × Nat)) := @ite _ (gSp (G0 D) = true ∨ TT D tm 0 = -1) (Classical.propDecidable _) K (some (wL D tm))
/-- what fewest, quickest answer -/
noncomputable def fwA (D : tD) (tm : Bool) : Int := if gSp (G0 D) = true then -2 else if TT D tm 0 = -1 then -1 else if tm = true then ((mins D (wL D tm) : Nat) : Int) else (((wL D tm).length : Nat) : Int)
theorem TT_f (D : tD) : TT D false = dst D (G0 D) := if_neg (by decide)
theorem TT_t (D : tD) : TT D true = tQ D (G0 D) 4096 := if_pos rfl
theorem Cl_mono {sc : mS} {d mj : Nat} {args : List zV} {w : zW} {K K' : zR → zW → Prop} (k : ∀ r w', K r w' → K' r w') (h : Cl sc d mj args w K) : Cl sc d mj args w K' := by
  obtain ⟨d', Mj, h1, h2, h3⟩ := h
  exact ⟨d', Mj, h1, h2, h3.imp k⟩
def FGx (I I' J J' : Nat → Nat → Int) : Prop := (∀ a, a < 3392 → ¬ a = 884 → ¬ a = 1044 → ¬ (1057 ≤ a ∧ a ≤ 1481) → ¬ a = 1672 → ¬ a = 1716 → I' a = I a) ∧ ∀ a, a < 3392 → J' a = J a
theorem FGx.rf (I J : Nat → Nat → Int) : FGx I I J J := ⟨fun _ _ _ _ _ _ _ => rfl, fun _ _ => rfl⟩
theorem FGx.tr {I I1 I2 J J1 J2 : Nat → Nat → Int} (h : FGx I I1 J J1) (h' : FGx I1 I2 J1 J2) : FGx I I2 J J2 := ⟨fun a h1 h2 h3 h4 h5 h6 => (h'.1 a h1 h2 h3 h4 h5 h6).trans (h.1 a h1 h2 h3 h4 h5 h6), fun a ha => (h'.2 a ha).trans (h.2 a ha)⟩
theorem FGx.fu {I I' J J' : Nat → Nat → Int} (h : FU I I' J J') : FGx I I' J J' := ⟨fun a h1 h2 h3 h4 _ _ => h.1 a h1 h2 h3 (by omega) (by omega) (by omega) (by omega) (by omega) (by omega) (by omega), h.2⟩
theorem FGx.fl {I I' J J' : Nat → Nat → Int} (h : FL I I' J J') : FGx I I' J J' := ⟨fun a h1 h2 h3 h4 _ _ => h.1 a h1 h2 h3 (by omega) (by omega) (by omega) (by omega) (by omega) (by omega) (by omega) (by omega), h.2⟩
theorem FGx.o {I I' : Nat → Nat → Int} (J : Nat → Nat → Int) (h : ∀ a, ¬ (1057 ≤ a ∧ a ≤ 1481) → ¬ a = 1672 → ¬ a = 1716 → I' a = I a) : FGx I I' J J := ⟨fun a _ _ _ h4 h5 h6 => h a h4 h5 h6, fun _ _ => rfl⟩
section
variable {D : tD} {g : gS}
theorem qM_99 (hD : dOk D) : ∀ (c k : Nat), hop D g k → qC D g k = c → qM D g k ≤ 99 * c := by
  intro c
  induction c with
  | zero =>
    intro k h hc
    have := q_goal (q_goal2 h hc)
    omega
  | succ c ih =>
    intro k h hc
    obtain ⟨e, he, hj, h3, h4⟩ := q_dn h hc
    have h5 := ih (tg g e) hj h4
    have h6 : mE D g e ≤ 99 := (dsm hD (gE g e).2.2.1).2.2.2
    omega
theorem wyL_in {act : Nat} {tm : Bool} {T : Nat → Int} (hO : gOk D act g) (hF : ∀ i, i < gN g → gF g i ≤ gF g (i + 1) ∧ gF g (i + 1) ≤ gM g) : ∀ (f k : Nat), k < gN g → (wyL D g tm T f k).length ≤ f ∧ ∀ e, e ∈ wyL D g tm T f k → e < gM g := by
  intro f
  induction f with
  | zero => intro k _; exact ⟨Nat.le_refl _, fun e he => by cases he⟩
  | succ f ih =>
    intro k hk
    cases hn : nxE D g tm T k with
    | none => rw [wyL_none hn]; exact ⟨Nat.zero_le _, fun e he => by cases he⟩
    | some e =>
      have he := (nx_some hn).1
      have heM : e < gM g := by have := hF k hk; have := he.2; omega
      have hz : tg g e < gN g := (hO.2.2.2.2.2 e heM).2.2.2
      obtain ⟨h1, h2⟩ := ih (tg g e) hz
      rw [wyL_some hn]
      refine ⟨by rw [List.length_cons]; omega, fun e' he' => ?_⟩
      rcases List.mem_cons.mp he' with z | z
      · rw [z]; exact heM
      · exact h2 e' z
theorem wL_LO {tm : Bool} (hO : gOk D (acts D (-1)) (G0 D)) (hF : ∀ i, i < gN (G0 D) → gF (G0 D) i ≤ gF (G0 D) (i + 1) ∧ gF (G0 D) (i + 1) ≤ gM (G0 D)) : LO D (wL D tm) := by
  obtain ⟨h1, h2⟩ := wyL_in (tm := tm) (T := TT D tm) hO hF 2000 0 (by have := hO.1.2; omega)
  refine ⟨by unfold wL; rw [List.length_map]; exact h1, fun i c hc => ?_⟩
  unfold wL at hc
  rw [List.getElem?_map] at hc
  cases hq : (wyL D (G0 D) tm (TT D tm) 2000 0)[i]? with
  | none => rw [hq] at hc; cases hc
  | some e =>
    rw [hq] at hc
    have hc : some (e3 (G0 D) e) = some c := hc
    cases hc
    have := hO.2.2.2.2.2 e (h2 e (List.mem_of_getElem? hq))
    exact ⟨this.1, this.2.1, this.2.2.1⟩
end
section
variable {sc : mS} {d : Nat} {t : zT} {I J : Nat → Nat → Int} {Q : zR → zW → Prop} {D : tD} {K : Option (List (Nat × Nat × Nat))}
/-- the facts of a graph that isn't spent -/
theorem G0_F (hG : GB t I D (acts D (-1)) (G0 D)) (hs : gSp (G0 D) = false) : (∀ i, i < gN (G0 D) → gF (G0 D) i ≤ gF (G0 D) (i + 1) ∧ gF (G0 D) (i + 1) ≤ gM (G0 D)) ∧ tgOk (G0 D) ∧ (∀ tm, TP D (G0 D) tm (TT D tm)) ∧ ∀ tm, inR (TT D tm 0) := by
  have hO := hG.2.2.2.2.1
  have hD := hG.2.2.1
  have hF := gAll_F (D := D) (act := acts D (-1)) (ho := dHo D 0) (lo := dLo D 0) hs hO
  have hTg := gOk_tg hO hF
  have hN := hO.1
  refine ⟨hF, hTg, fun tm => ?_, fun tm => ?_⟩
  · cases tm with
    | true => rw [TT_t]; exact TP_quick hTg hN.1
    | false => rw [TT_f]; exact TP_few hTg hN.1
  · cases tm with
    | true =>
      rw [TT_t]
      rcases Classical.em (hop D (G0 D) 0) with h | h
      · rw [tQ_h h]
        have h1 := qM_99 hD _ 0 h rfl
        have h2 := qC_lt hTg (by omega : 0 < gN (G0 D)) h
        exact ⟨by omega, by omega⟩
      · rw [tQ_n h]; exact ⟨by decide, by decide⟩
    | false =>
      rw [TT_f]
      have := dst_in hTg hN.1 (by omega : 0 < gN (G0 D)) (D := D)
      exact ⟨Int.le_trans (by decide) this.1, Int.lt_of_le_of_lt this.2 (by decide)⟩
theorem GP.mz {n : Nat} {I' : Nat → Nat → Int} {s : Nat} {tm : Bool} (h : GP t I D n) (h0 : I 1057 0 = 1) (hgb : t_gb t = t_rb t) (hG : GB t I' D (acts D (-1)) (G0 D)) (e57 : I' 1057 = I 1057) (a1 : I' 1283 1 = I 1057 1) (a2 : I' 1283 2 = (s : Int)) (a3 : I' 1283 3 = ((tm.toNat : Nat) : Int)) (hs : s < 2000) (hZ : gSp (G0 D) = false → MZ D (G0 D) tm (TT D tm) s I') : GP t I' D n := by
  obtain ⟨p1, p2, p3, p4, p5⟩ := h
  have hbd : 1 ≤ I 1057 1 := by
    rcases p5 with z | ⟨-, z, -⟩
    · rw [h0] at z; exact absurd z (by decide)
    · exact z
  unfold GP
  rw [e57, a1, a2, a3, h0]
  refine ⟨p1, ⟨p1.1, Int.le_refl _⟩, ⟨by omega, by omega⟩, by cases tm <;> exact ⟨by decide, by decide⟩, Or.inr ⟨rfl, hbd, hgb, hG, fun q _ s' tm' e1 e2 => ?_⟩⟩
  have es : s' = s := by omega
  have et : tm' = tm := by cases tm <;> cases tm' <;> first | rfl | exact absurd e2 (by decide)
  rw [es, et]
  exact hZ q
theorem GP.get {n : Nat} {s : Nat} {tm : Bool} (h : GP t I D n) (h0 : I 1057 0 = 1) (hs : gSp (G0 D) = false) : I 1283 1 = I 1057 1 → I 1283 2 = (s : Int) → I 1283 3 = ((tm.toNat : Nat) : Int) → MZ D (G0 D) tm (TT D tm) s I := by
  intro c1 c2 c3
  rcases h.2.2.2.2 with z | ⟨-, -, -, -, hmz⟩
  · rw [h0] at z; exact absurd z (by decide)
  · exact hmz hs c1 s tm c2 c3
theorem KCo.to {I' : Nat → Nat → Int} (h : KCo I D K) (e1 : I' 1672 = I 1672) (e2 : I' 1716 = I 1716) : KCo I' D K := by
  cases K with
  | none => show I' 1672 0 = -1; rw [e1]; exact h
  | some l =>
    obtain ⟨a, b⟩ : KC I D l ∧ LO D l := h
    refine (⟨?_, b⟩ : KC I' D l ∧ LO D l)
    unfold KC
    rw [e1, e2]
    exact a
theorem kTop {n : Nat} {tm : Bool} (hd : 8 ≤ d) (hX : TX t I D) (hP : GP t I D n) (hn : n + 1 < 2147483648) (hK : KCo I D K)
    (h : ∀ (t' : zT) (I' J' : Nat → Nat → Int), tU t t' → FGx I I' J J' → TX t' I' D → GP t' I' D (n + 1) → KCo I' D (kpN D tm K) → I' 1481 = I 1481 → Q (.inl (some (vi (fwA D tm)))) (z_cfg t', I', J')) :
    Cl sc d 23 [vr 42] (z_cfg t, I, J) (fun r w => ∃ (t1 : zT) (I1 J1 : Nat → Nat → Int), w = (z_cfg t1, I1, J1) ∧ r = .inl (some (vi (if gSp (G0 D) = true then 0 else 1))) ∧ (gSp (G0 D) = true → Q (.inl (some (vi (-2)))) w) ∧ (gSp (G0 D) = false → ∀ (d' : Nat) (K2 : zR → zW → Prop), 7 ≤ d' → (∀ v t2 I2 J2, Q (.inl (some (vi v))) (z_cfg t2, I2, J2) → K2 (.inl (some (vi v))) (z_cfg t2, I2, J2)) → Cl sc d' 54 [vr 42, vi ((tm.toNat : Nat) : Int)] w K2)) := by
  refine c23 (by omega) (fun d' _ => k23 (by omega) hX hP hn (fun t1 I1 J1 hu f1 hX1 hP1 h01 hG1 hgb1 => ⟨t1, I1, J1, rfl, rfl, fun hs => ?_, fun hs d2 K2 hd2 hK2 => ?_⟩))
  · have e67 : I1 1672 = I 1672 := f1.1 1672 (by decide) (by decide) (by decide) (by decide) (by decide) (by decide) (by decide) (by decide) (by decide) (by decide)
    have e71 : I1 1716 = I 1716 := f1.1 1716 (by decide) (by decide) (by decide) (by decide) (by decide) (by decide) (by decide) (by decide) (by decide) (by decide)
    have e81 : I1 1481 = I 1481 := f1.1 1481 (by decide) (by decide) (by decide) (by decide) (by decide) (by decide) (by decide) (by decide) (by decide) (by decide)
    have ek : kpN D tm K = K := if_pos (Or.inl hs)
    have ea : fwA D tm = -2 := by unfold fwA; rw [if_pos hs]
    have := h t1 I1 J1 hu (FGx.fu f1) hX1 hP1 (by rw [ek]; exact hK.to e67 e71) e81
    rw [ea] at this
    exact this
  · obtain ⟨hF, hTg, hTP, hTr⟩ := G0_F hG1 hs
    have hO := hG1.2.2.2.2.1
    have hb := hP1.1
    have hb2 := hP1.2.1
    have hR1 : RW I1 D := hX1.2.2.1.2.1
    refine c54 (by omega) (fun d3 _ => k54 (T := TT D tm) (tm := tm) rfl (by omega) hG1 hs hR1 hF (hTP tm) (hTr tm) ⟨by omega, by omega⟩ hP1.2.2.1 hP1.2.2.2.1 ⟨by omega, by omega⟩ (fun c1 c2 c3 => hP1.get h01 hs c1 c2 c3) (fun I2 f2 a1 a2 a3 hZ hkeep hnew => hK2 _ _ _ _ ?_))
    have e67 : I1 1672 = I 1672 := f1.1 1672 (by decide) (by decide) (by decide) (by decide) (by decide) (by decide) (by decide) (by decide) (by decide) (by decide)
    have e71 : I1 1716 = I 1716 := f1.1 1716 (by decide) (by decide) (by decide) (by decide) (by decide) (by decide) (by decide) (by decide) (by decide) (by decide)
    have e81 : I2 1481 = I 1481 := by rw [f2 1481 (by decide) (by decide) (by decide)]; exact f1.1 1481 (by decide) (by decide) (by decide) (by decide) (by decide) (by decide) (by decide) (by decide) (by decide) (by decide)
    have hG2 : GB t1 I2 D (acts D (-1)) (G0 D) := hG1.to3 (fun a ha => f2 a (by omega) (by omega) (by omega))
    have hX2 : TX t1 I2 D := hX1.w (fun a ha => f2 a (by omega) (by omega) (by omega))
    have hP2 : GP t1 I2 D (n + 1) := hP1.mz h01 hgb1 hG2 (f2 1057 (by decide) (by decide) (by decide)) a1 a2 a3 (by decide) (fun _ => hZ)
    have F2 : FGx I I2 J J1 := (FGx.fu f1).tr (FGx.o J1 (fun a b1 b2 b3 => f2 a (by omega) b2 b3))
    have eq : fwA D tm = (if TT D tm 0 = -1 then -1 else if tm = true then ((mins D ((wyL D (G0 D) tm (TT D tm) 2000 0).map (e3 (G0 D))) : Nat) : Int) else (((wyL D (G0 D) tm (TT D tm) 2000 0).length : Nat) : Int)) := by
      unfold fwA
      rw [if_neg (by rw [hs]; decide)]
      have : (wL D tm).length = (wyL D (G0 D) tm (TT D tm) 2000 0).length := by unfold wL; rw [List.length_map]
      rw [this]
      rfl
    have := h t1 I2 J1 hu F2 hX2 hP2 (by
      by_cases c : TT D tm 0 = -1
      · have ek : kpN D tm K = K := if_pos (Or.inr c)
        obtain ⟨u1, u2⟩ := hkeep c
        rw [ek]
        exact hK.to (u1.trans e67) (u2.trans e71)
      · have ek : kpN D tm K = some (wL D tm) := if_neg (fun z => by
          rcases z with z | z
          · rw [hs] at z; cases z
          · exact c z)
        rw [ek]
        exact (⟨hnew c, wL_LO hO hF⟩ : KC I2 D (wL D tm) ∧ LO D (wL D tm))) e81
    rw [eq] at this
    exact this
theorem k22 {n : Nat} (hd : 8 ≤ d) (hX : TX t I D) (hP : GP t I D n) (hn : n + 1 < 2147483648) (hK : KCo I D K)
    (h : ∀ (t' : zT) (I' J' : Nat → Nat → Int), tU t t' → FGx I I' J J' → TX t' I' D → GP t' I' D (n + 1) → KCo I' D (kpN D false K) → I' 1481 = I 1481 → Q (.inl (some (vi (fwA D false)))) (z_cfg t', I', J')) : Go sc d mt_22 0 [vr 42] [] (z_cfg t, I, J) Q := by
  refine b22_0 ?_
  refine Cl_mono ?_ (kTop (Q := Q) (tm := false) hd hX hP hn hK h)
  rintro r w ⟨t1, I1, J1, rfl, rfl, q1, q2⟩
  cases hs : gSp (G0 D) with
  | true =>
    rw [if_pos rfl]
    exact b22_4 ⟨⟨by decide, by decide⟩, fun _ => q1 hs, fun z => absurd rfl z⟩
  | false =>
    rw [if_neg (by decide)]
    exact b22_4 ⟨⟨by decide, by decide⟩, fun z => absurd z (by decide), fun _ => q2 hs d _ (by omega) (fun v t2 I2 J2 hq => b22_12 hq)⟩
theorem k73 {n : Nat} (hd : 8 ≤ d) (hX : TX t I D) (hP : GP t I D n) (hn : n + 1 < 2147483648) (hK : KCo I D K)
    (h : ∀ (t' : zT) (I' J' : Nat → Nat → Int), tU t t' → FGx I I' J J' → TX t' I' D → GP t' I' D (n + 1) → KCo I' D (kpN D true K) → I' 1481 = I 1481 → Q (.inl (some (vi (fwA D true)))) (z_cfg t', I', J')) : Go sc d mt_73 0 [vr 42] [] (z_cfg t, I, J) Q := by
  refine b73_0 ?_
  refine Cl_mono ?_ (kTop (Q := Q) (tm := true) hd hX hP hn hK h)
  rintro r w ⟨t1, I1, J1, rfl, rfl, q1, q2⟩
  cases hs : gSp (G0 D) with
  | true =>
    rw [if_pos rfl]
    exact b73_4 ⟨⟨by decide, by decide⟩, fun _ => q1 hs, fun z => absurd rfl z⟩
  | false =>
    rw [if_neg (by decide)]
    exact b73_4 ⟨⟨by decide, by decide⟩, fun z => absurd z (by decide), fun _ => q2 hs d _ (by omega) (fun v t2 I2 J2 hq => b73_12 hq)⟩
end
