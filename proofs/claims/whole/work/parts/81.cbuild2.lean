/-! ===== the class: build whole; what is asked of a graph ===== -/
theorem z_fN_cg {l l' : zL} {a : Nat} (h : l.map (fun c => (c.1, c.2.1)) = l'.map (fun c => (c.1, c.2.1))) : z_fN l a = z_fN l' a := by
  have e := congrArg (fun m : List (Nat × Nat) => m[a / 32 - 1]?) h
  simp only [List.getElem?_map] at e
  unfold z_fN
  cases h1 : l[a / 32 - 1]? with
  | none =>
    rw [h1] at e
    cases h2 : l'[a / 32 - 1]? with
    | none => rfl
    | some q => rw [h2] at e; cases e
  | some p =>
    rw [h1] at e
    cases h2 : l'[a / 32 - 1]? with
    | none => rw [h2] at e; cases e
    | some q =>
      rw [h2] at e
      obtain ⟨p1, p2, p3⟩ := p
      obtain ⟨q1, q2, q3⟩ := q
      have e : some (p1, p2) = some (q1, q2) := e
      injection e with e
      injection e with e1 e2
      rw [e1, e2]
set_option maxRecDepth 8000 in
theorem tab_map (t t' : zT) : (z_tab t).map (fun c => (c.1, c.2.1)) = (z_tab t').map (fun c => (c.1, c.2.1)) := by
  obtain ⟨ts, te, tt, b1, b2, b3, b4, b5, b6⟩ := t
  obtain ⟨us, ue, ut, c1, c2, c3, c4, c5, c6⟩ := t'
  rfl
theorem eOk_to {t t' : zT} (h1 : t_s t' = t_s t) (h2 : t_e t' = t_e t) (h3 : t_l t' = t_l t) : (eOk t → eOk t') ∧ rS t' = rS t ∧ rC t' = rC t ∧ eL t' = eL t := by
  have hN : z_fN (z_tab t' ++ t_l t') (t_e t') = z_fN (z_tab t ++ t_l t) (t_e t) := by
    rw [h2]
    refine z_fN_cg ?_
    rw [List.map_append, List.map_append, tab_map t' t, h3]
  have hL : eL t' = eL t := by unfold eL; rw [hN]
  refine ⟨fun h => ?_, ?_, ?_, hL⟩
  · unfold eOk
    rw [hL, hN, h2]
    exact h
  · unfold rS
    rw [hL, h1]
  · unfold rC
    rw [hL, h3]
set_option maxRecDepth 8000 in
theorem fN_1236 (t : zT) : z_fN (z_tab t ++ t_l t) (1235 + 1) = some 4096 := by
  obtain ⟨ts, te, tt, b1, b2, b3, b4, b5, b6⟩ := t
  rfl
theorem upN_c (c : Nat) : upN (fun _ => c) 0 c = fun _ => c := by
  funext i
  unfold upN
  split <;> rfl
theorem g0_ok {D : tD} {act : Nat} (hD : dOk D) : gOk D act (g0 D) := by
  refine ⟨⟨by show 1 ≤ 2000; omega, Nat.le_refl _⟩, Nat.zero_le _, fun k _ => ⟨start_ok hD, Nat.zero_le _⟩, fun h _ _ => h, fun a b ha hb _ => ?_, fun e he => ?_⟩
  · have ha : a < 1 := ha
    have hb : b < 1 := hb
    omega
  · have he : e < 0 := he
    omega
/-- what build leaves alone -/
def FU (I I' J J' : Nat → Nat → Int) : Prop := (∀ a, a < 3392 → ¬ a = 884 → ¬ a = 1044 → ¬ a = 1057 → ¬ a = 1108 → ¬ a = 1140 → ¬ a = 1172 → ¬ a = 1204 → ¬ a = 1236 → ¬ a = 1270 → I' a = I a) ∧ ∀ a, a < 3392 → J' a = J a
/-- the class's graph is built -/
def GB (t : zT) (I : Nat → Nat → Int) (D : tD) (act : Nat) (g : gS) : Prop := eOk t ∧ CD (t_gb t) I D ∧ dOk D ∧ GC t I D g ∧ gOk D act g ∧ (gSp g = false → ∀ i, i ≤ gN g → I 1172 i = gF g i)
section
variable {sc : mS} {d : Nat} {t : zT} {I J : Nat → Nat → Int} {Q : zR → zW → Prop} {D : tD}
theorem k25 {x1 x2 x3 : Int} {act ho lo : Nat} (e1 : x1 = act) (e2 : x2 = ho) (e3 : x3 = lo) (hd : 6 ≤ d) (hU : RU t I D) (hE : eOk t) (hact : act < 4096) (hho : ho < 2147483648) (hlo : lo < 2147483648) (hs6 : 0 ≤ I (z_mf (t_rb t) 6) 1 ∧ I (z_mf (t_rb t) 6) 1 < 2147483648) (hs7 : 0 ≤ I (z_mf (t_rb t) 7) 1 ∧ I (z_mf (t_rb t) 7) 1 < 2147483648)
    (h : ∀ (t' : zT) (I' J' : Nat → Nat → Int), tR (t_sgb t (t_rb t)) t' → FU I I' J J' → I' 1057 0 = 0 → I' 1057 1 = I 1057 1 + 1 → (∀ k, 5 < k → ¬ k = 8 → ¬ k = 9 → I' 1057 k = I 1057 k) → RU t' I' D → GB t' I' D act (gAll D act ho lo) → Q (.inl (some (vi (if gSp (gAll D act ho lo) = true then -2 else gg D (gX (gAll D act ho lo)) (gDp (gAll D act ho lo)) (gN (gAll D act ho lo)))))) (z_cfg t', I', J')) :
    Go sc d mt_25 0 [vr 1057, vi x1, vi x2, vi x3, vn, vn, vn, vn] [] (z_cfg t, I, J) Q := by
  subst e1 e2 e3
  have hD := hU.2.2.2
  have hB := hD.2.2.1
  obtain ⟨k1, k2, k3, -⟩ := eOk_to (t := t) (t' := t_sgb t (t_rb t)) rfl rfl rfl
  have hE1 := k1 hE
  refine b25_0 ?_
  generalize hI1 : z_u (z_u (z_u (z_u (z_u (z_u (z_u I 1057 8 (act : Int)) 1057 0 0) 1057 1 ((I 1057 1) + 1)) 1057 2 0) 1057 3 0) 1057 4 0) 1057 5 (-1) = I1
  have f1 : ∀ a, ¬ a = 1057 → I1 a = I a := fun a ha => by rw [← hI1, zu_ne ha, zu_ne ha, zu_ne ha, zu_ne ha, zu_ne ha, zu_ne ha, zu_ne ha]
  have f8 : I1 1057 8 = act := by rw [← hI1]; rfl
  have f0 : I1 1057 0 = 0 := by rw [← hI1]; rfl
  have fb : I1 1057 1 = I 1057 1 + 1 := by rw [← hI1]; rfl
  have f2 : I1 1057 2 = 0 := by rw [← hI1]; rfl
  have f3 : I1 1057 3 = 0 := by rw [← hI1]; rfl
  have f4 : I1 1057 4 = 0 := by rw [← hI1]; rfl
  have f5 : I1 1057 5 = -1 := by rw [← hI1]; rfl
  have fk : ∀ k, 5 < k → ¬ k = 8 → ¬ k = 9 → I1 1057 k = I 1057 k := fun k h1 h2 h3 => by rw [← hI1, zu_nk (by omega), zu_nk (by omega), zu_nk (by omega), zu_nk (by omega), zu_nk (by omega), zu_nk (by omega), zu_nk h2]
  have hU1 : RU (t_sgb t (t_rb t)) I1 D := hU.up rfl (fun a ha => f1 a (by omega))
  have hgb : t_gb (t_sgb t (t_rb t)) = t_rb (t_sgb t (t_rb t)) := rfl
  have hrb : t_rb (t_sgb t (t_rb t)) = t_rb t := rfl
  generalize t_sgb t (t_rb t) = t1 at *
  refine k11 (a := 1235) (n := 4096) (by omega) (by decide) (fN_1236 t1) (by omega) (fun I2 m1 m2 => ?_)
  have hU2 : RU t1 I2 D := hU1.up rfl (fun a ha => m2 a (by omega))
  refine b25_59 (c26 (by omega) (fun d' _ => k26 (b := 0) rfl rfl rfl (by omega) hgb hU2 (by rw [m2 1057 (by decide)]; exact f8) (by omega) hho hlo hact (fun I3 n1 n2 hU3 hT0 => ?_)))
  have hz6 := zmf_lt (t_rb t) 6
  have hz7 := zmf_lt (t_rb t) 7
  have e6 : I3 (z_mf (t_gb t1) 6) 1 = I (z_mf (t_rb t) 6) 1 := by rw [hgb, hrb, n1 _ (by omega) (by omega) (by omega), m2 _ (by omega), f1 _ (by omega)]
  have e7 : I3 (z_mf (t_gb t1) 7) 1 = I (z_mf (t_rb t) 7) 1 := by rw [hgb, hrb, n1 _ (by omega) (by omega) (by omega), m2 _ (by omega), f1 _ (by omega)]
  refine b25_66 ?_
  rw [e6, e7]
  refine c26 (by omega) (fun d' _ => k26 (b := 1) (ho := (I (z_mf (t_rb t) 6) 1).toNat) (lo := (I (z_mf (t_rb t) 7) 1).toNat) rfl (by omega) (by omega) (by omega) hgb hU3 (by rw [n1 1057 (by decide) (by decide) (by decide), m2 1057 (by decide)]; exact f8) (by omega) (by omega) (by omega) hact (fun I4 o1 o2 hU4 hT1 => ?_))
  have hC4 : CD (t_gb t1) I4 D := by rw [hgb]; exact hU4.1
  refine b25_89 (c16 (by omega) (fun d' _ => k16 (by omega) hC4 hD ?_))
  have p57 : I4 1057 = I1 1057 := by rw [o1 1057 (by decide) (by decide) (by decide), n1 1057 (by decide) (by decide) (by decide), m2 1057 (by decide)]
  have pF : ∀ a, ¬ a = 884 → ¬ a = 1044 → ¬ a = 1270 → ¬ a = 1236 → ¬ a = 1057 → I4 a = I a := fun a h1 h2 h3 h4 h5 => by rw [o1 a h1 h2 h3, n1 a h1 h2 h3, m2 a h4, f1 a h5]
  have hS4 : GS I4 D 0 (fun _ => dStart D) (fun _ => 0) := by
    refine ⟨by rw [p57]; exact f3, ⟨fun _ => 0, by omega, fun k hk => by omega, fun i hi => ?_, pb_nil _ _⟩, fun k hk => by omega, by rw [p57]; exact f5⟩
    rw [o1 1236 (by decide) (by decide) (by decide), n1 1236 (by decide) (by decide) (by decide)]
    exact m1 i hi
  have hst := start_ok hD
  refine b25_96 (c38 (by omega) (fun d' _ => k38 (dp := 0) rfl rfl (by omega) hC4 hD hS4 (by omega) hst.1 (by omega) (fun i hi => by omega) (fun I5 q1 q2 q3 => ?_)))
  rw [upN_c, upN_c] at q3
  have hU5 : RU t1 I5 D := hU4.up rfl (fun a ha => q1 a (by omega) (by omega) (by omega) (by omega))
  refine b25_105 (c42 (by omega) (fun d' _ => k42 rfl (by omega) hU5 hst.1 (fun I6 s1 hU6 => ?_)))
  have w57 : I6 1057 = I5 1057 := s1 1057 (by decide) (by decide)
  have w8 : I6 1057 8 = act := by rw [w57, q2 8 (by decide) (by decide), p57]; exact f8
  have wG : GC t1 I6 D (g0 D) := GC.fb (Or.inr ⟨rfl, by rw [q2 2 (by decide) (by decide), p57]; exact f2, by rw [q2 4 (by decide) (by decide), p57]; exact f4, q3, fun e he => absurd he (Nat.not_lt_zero e), Nat.zero_le _⟩) hE1 s1
  have w1270 : I6 1270 = I4 1270 := by rw [s1 1270 (by decide) (by decide), q1 1270 (by decide) (by decide) (by decide) (by decide)]
  have wT : ∀ b, b < dB D → FT I6 D act b (if b = 0 then ho else dHo D b) (if b = 0 then lo else dLo D b) 256 := by
    intro b hb S z1 z2 z3
    rw [w1270]
    by_cases e : b = 0
    · rw [e, if_pos rfl, if_pos rfl, o2 _ (by omega)]
      exact hT0 S z1 z2 z3
    · have eb : b = 1 := by omega
      have hc := hU.1.2.2.2.2.2.2.1 1 (by omega)
      have z := hT1 S z1 z2 z3
      rw [hc.1, hc.2.1, Int.toNat_natCast, Int.toNat_natCast] at z
      rw [if_neg e, if_neg e, eb]
      exact z
  have hdb : dShores D (dStart D) < 2 ^ 12 := orN_lt (fun i _ => dBars_lt hD _ _ _ _)
  have go : ∀ x5 : Int, x5 = (if dShores D (dStart D) &&& act = 0 then 0 else 1) → Go sc d mt_25 127 [vr 1057, vi (act : Int), vi (ho : Int), vi (lo : Int), vi (dStart D : Int), vn, vn, vn] [vi x5] (z_cfg t1, I6, J) Q := by
    intro x5 hx5
    refine b25_127 (k25loop (act := act) (ho := ho) (lo := lo) (t0 := t1) (I0 := I6) (J0 := J) hd hgb hact w8 hx5 wT (gAll D act ho lo) (fun t' I' J' hO hrow => ?_) 2001 0 t1 I6 J (g0 D) vn (by omega) ⟨tR.rf hE1, FO.rf I6 J, hU6, wG, g0_ok hD⟩ (Nat.zero_le _) (fun _ z => by omega) rfl rfl)
    obtain ⟨oR, oF, oU, oG, oO⟩ := hO
    have gb' : t_gb t' = t_rb t' := by rw [oR.1.2.2.1, oR.1.2.1, hgb]
    have w : ∀ k, ¬ k = 3 → ¬ k = 5 → I6 1057 k = I1 1057 k := fun k h1 h2 => by rw [w57, q2 k h1 h2, p57]
    refine h t' I' J' oR ⟨fun a h1 h2 h3 h4 h5 h6 h7 h8 h9 h10 => ?_, oF.2.2⟩ ?_ ?_ (fun k h1 h2 h3 => ?_) oU ⟨oR.2.1, by rw [gb']; exact oU.1, hD, oG, oO, hrow⟩
    · rw [oF.1 a h1 h2 h3 h4 h5 h6 h9 h8 h7, s1 a h2 h3, q1 a h4 h5 h6 h9, pF a h2 h3 h10 h9 h4]
    · rw [oF.2.1 0 (by decide) (by decide), w 0 (by decide) (by decide)]; exact f0
    · rw [oF.2.1 1 (by decide) (by decide), w 1 (by decide) (by decide)]; exact fb
    · rw [oF.2.1 k (by omega) h3, w k (by omega) (by omega)]; exact fk k h1 h2 h3
  refine b25_114 ?_
  rw [w8, zand_n (by omega) (by omega)]
  refine ⟨fun c => go 0 ?_, fun c => go 1 ?_⟩
  · rw [if_pos (by omega)]
  · rw [if_neg (fun z => c (by rw [z]; rfl))]
/-! what is asked of a built graph that isn't spent -/
theorem GB.gi {act : Nat} {g : gS} (h : GB t I D act g) (hs : gSp g = false) : GI t I D g := by
  rcases h.2.2.2.1 with ⟨z, -⟩ | ⟨-, z⟩
  · rw [hs] at z; cases z
  · exact z
theorem k61 {x1 : Int} {act k : Nat} {g : gS} (e1 : x1 = k) (hd : 2 ≤ d) (hG : GB t I D act g) (hs : gSp g = false) (hk : k < gN g) (h : Q (.inl (some (vi ((dGoal D (gX g k)).toNat)))) (z_cfg t, I, J)) : Go sc d mt_61 0 [vr 1057, vi x1] [] (z_cfg t, I, J) Q := by
  subst e1
  have hI := hG.gi hs
  have hN := hG.2.2.2.2.1.1
  refine b61_0 ?_
  rw [hI.2.2.1.1, Int.toNat_natCast, hG.2.2.2.1.row hk]
  refine ⟨⟨by omega, by omega⟩, fun c => by omega, fun _ => ⟨⟨by omega, by omega⟩, fun _ => ⟨fun _ => ?_, fun c => by omega⟩, fun c => by omega⟩⟩
  refine c40 (by omega) (fun d' _ => k40 rfl (by omega) hG.2.1 hG.2.2.1 (hG.2.2.2.2.1.2.2.1 k hk).1.1 ?_)
  cases hg : dGoal D (gX g k) with
  | false =>
    rw [hg] at h
    exact b61_32 ⟨⟨by decide, by decide⟩, fun _ => h, fun c => absurd rfl c⟩
  | true =>
    rw [hg] at h
    exact b61_32 ⟨⟨by decide, by decide⟩, fun c => absurd c (by decide), fun _ => h⟩
theorem k62 {x1 : Int} {act k : Nat} {g : gS} (e1 : x1 = k) (hG : GB t I D act g) (hs : gSp g = false) (hk : k ≤ gN g) (h : Q (.inl (some (vi (gF g k)))) (z_cfg t, I, J)) : Go sc d mt_62 0 [vr 1057, vi x1] [] (z_cfg t, I, J) Q := by
  subst e1
  have hI := hG.gi hs
  have hN := hG.2.2.2.2.1.1
  refine b62_0 ?_
  rw [hI.2.2.1.1, Int.toNat_natCast, hG.2.2.2.2.2 hs k hk]
  exact ⟨⟨by omega, by omega⟩, fun c => by omega, fun _ => ⟨⟨by omega, by omega⟩, fun c => by omega, fun _ => ⟨fun c => by omega, fun _ => ⟨⟨by omega, by omega⟩, h⟩⟩⟩⟩
set_option maxRecDepth 8000 in
theorem b63_18 {x1 s0 s1 : Int} (h : (inR s1) ∧ (inR s0) ∧ ((s1 < s0 → Go sc d mt_63 26 [vr 1057, vi x1] [vi x1, vr (t_e t)] (z_cfg t, I, J) Q) ∧ (¬ s1 < s0 → Q (.inl (some (vi 0))) (z_cfg t, I, J)))) : Go sc d mt_63 18 [vr 1057, vi x1] [vi s0, vi s1] (z_cfg t, I, J) Q := by
  obtain ⟨ts, te, tt, b1, b2, b3, b4, b5, b6⟩ := t
  exact z_sound (f := false) (cuts := [26]) 60 18 [vr 1057, vi x1] [vi s0, vi s1] (z_tab (ts, te, tt, b1, b2, b3, b4, b5, b6) ++ t_l (ts, te, tt, b1, b2, b3, b4, b5, b6), t_s (ts, te, tt, b1, b2, b3, b4, b5, b6), I, J) h
theorem k63 {x1 : Int} {act e : Nat} {g : gS} (e1 : x1 = e) (hG : GB t I D act g) (hs : gSp g = false) (he : e < gM g) (h : Q (.inl (some (vi (ecC (gE g e))))) (z_cfg t, I, J)) : Go sc d mt_63 0 [vr 1057, vi x1] [] (z_cfg t, I, J) Q := by
  subst e1
  have hI := hG.gi hs
  have hM := hG.2.2.2.2.1.2.1
  obtain ⟨hv, hN, hk, -⟩ := hG.1
  have hle := hI.2.2.2.2
  refine b63_0 ?_
  rw [hI.2.1]
  refine ⟨⟨by omega, by omega⟩, fun c => by omega, fun _ => ⟨⟨by omega, by omega⟩, fun _ => ?_, fun c => by omega⟩⟩
  refine s_aln (l := z_tab t ++ t_l t) (s := t_s t) rfl hk hN ?_
  refine b63_18 ⟨⟨by omega, by omega⟩, ⟨by omega, by omega⟩, fun _ => ?_, fun c => by omega⟩
  refine s_iald (l := z_tab t ++ t_l t) (s := t_s t) rfl hk hN (by omega) (by omega) (by omega) ?_
  rw [Int.toNat_natCast, hI.2.2.2.1 e he]
  exact z_sound (f := false) (cuts := []) 10 27 _ _ (z_tab t ++ t_l t, t_s t, I, J) h
theorem k64 {x0 : Int} {b p S j : Nat} (e0 : x0 = ecC (b, p, S, j)) (hb : b < 2) (hp : p < 4) (hS : S < 256) (hj : j < 2048) (h : Q (.inl (some (vi (j : Int)))) (z_cfg t, I, J)) : Go sc d mt_64 0 [vi x0] [] (z_cfg t, I, J) Q := by
  subst e0
  refine b64_0 ?_
  have e : ecC (b, p, S, j) = ((b * 4 + p) * 256 + S) * 2048 + j := rfl
  rw [show (2047 : Int) = ((2047 : Nat) : Int) from rfl, zandm 2047 11 rfl (by omega) (by omega), e, show (((b * 4 + p) * 256 + S) * 2048 + j) % 2 ^ 11 = j by omega]
  exact h
theorem k151 {act : Nat} {g : gS} (hG : GB t I D act g) (hs : gSp g = false) (h : Q (.inl (some (vi (gDp g (gN g - 1))))) (z_cfg t, I, J)) : Go sc d mt_151 0 [vr 1057] [] (z_cfg t, I, J) Q := by
  have hI := hG.gi hs
  have hN := hG.2.2.2.2.1.1
  refine b151_0 ?_
  rw [hI.2.2.1.1, show ((gN g : Int) - 1).toNat = gN g - 1 by omega, (hI.2.2.1.2.2.1 (gN g - 1) (by omega)).1]
  exact ⟨⟨by omega, by omega⟩, fun _ => ⟨fun c => by omega, fun _ => ⟨⟨by omega, by omega⟩, h⟩⟩, fun c => by omega⟩
end
