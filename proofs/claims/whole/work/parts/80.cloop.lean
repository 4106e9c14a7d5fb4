/-! ===== the class: build's loop over the states ===== -/
theorem dg_0 (u : Nat) : dg 0 u = 0 := by unfold dg; rw [Nat.zero_div]
theorem lshore_0 (i : Nat) : lshore 0 i = 0 := by unfold lshore; rw [Nat.zero_testBit, Nat.zero_testBit]; rfl
/-- the start -/
theorem st_fold {D : tD} (hD : dOk D) : ∀ n, n ≤ dB D → (List.range n).foldl (fun s b => lmoor s b (dAt D b)) (dStart0 D) < 4194304 ∧ (∀ i, i < 8 → lshore ((List.range n).foldl (fun s b => lmoor s b (dAt D b)) (dStart0 D)) i = 0) ∧ (∀ b, b < 2 → lberth ((List.range n).foldl (fun s b => lmoor s b (dAt D b)) (dStart0 D)) b = if b < n then dAt D b else 0) ∧ llamp ((List.range n).foldl (fun s b => lmoor s b (dAt D b)) (dStart0 D)) = (if dLamp D = -1 then 0 else (dLamp D).toNat) := by
  have hS4 := hD.1
  have hB := hD.2.2.1
  have hl : dLamp D = -1 ∨ (dLamp D).toNat < 4 := by
    rcases hD.2.2.2.2.1 with q | q
    · exact Or.inl q
    · exact Or.inr (by omega)
  intro n
  induction n with
  | zero =>
    intro _
    show dStart0 D < 4194304 ∧ (∀ i, i < 8 → lshore (dStart0 D) i = 0) ∧ (∀ b, b < 2 → lberth (dStart0 D) b = if b < 0 then dAt D b else 0) ∧ llamp (dStart0 D) = _
    refine ⟨dStart0_lt hD, fun i hi => ?_, fun b hb => ?_, ?_⟩
    · unfold dStart0
      split
      · exact lshore_0 i
      · rename_i q
        rw [llit_eq, lshore_rset (by omega) (by omega) hi, lshore_0]
    · rw [if_neg (by omega), lberth_eq]
      unfold dStart0
      split
      · exact dg_0 _
      · rename_i q
        rw [llit_eq, dg_rset (by omega), if_neg (by omega), dg_0]
    · rw [llamp_eq]
      unfold dStart0
      split
      · exact dg_0 _
      · rename_i q
        rw [llit_eq, dg_rset (by omega), if_pos rfl]
  | succ n ih =>
    intro hn
    obtain ⟨i1, i2, i3, i4⟩ := ih (by omega)
    have hat := (hD.2.2.2.2.2.2.1 n (by omega)).2.2
    rw [List.range_succ, List.foldl_append]
    generalize (List.range n).foldl (fun s b => lmoor s b (dAt D b)) (dStart0 D) = s at i1 i2 i3 i4
    show lmoor s n (dAt D n) < 4194304 ∧ (∀ i, i < 8 → lshore (lmoor s n (dAt D n)) i = 0) ∧ (∀ b, b < 2 → lberth (lmoor s n (dAt D n)) b = if b < n + 1 then dAt D b else 0) ∧ llamp (lmoor s n (dAt D n)) = _
    refine ⟨lmoor_lt i1 (by omega) (by omega), fun i hi => ?_, fun b hb => ?_, ?_⟩
    · rw [lmoor_eq, lshore_rset (by omega) (by omega) hi, i2 i hi]
    · rw [lmoor_eq, lberth_eq, dg_rset (by omega), ← lberth_eq, i3 b hb]
      by_cases e : b = n
      · rw [if_pos (by omega), if_pos (by omega), e]
      · rw [if_neg (by omega)]
        by_cases q : b < n
        · rw [if_pos q, if_pos (by omega)]
        · rw [if_neg q, if_neg (by omega)]
    · rw [lmoor_eq, llamp_eq, dg_rset (by omega), if_neg (by omega), ← llamp_eq, i4]
theorem start_ok {D : tD} (hD : dOk D) : stOk D (dStart D) := by
  obtain ⟨h1, h2, h3, -⟩ := st_fold hD (dB D) (Nat.le_refl _)
  have hB := hD.2.2.1
  refine ⟨h1, fun i _ hi => h2 i hi, fun b hb => ?_⟩
  have e := h3 b (by omega)
  rw [if_pos hb] at e
  show lberth ((List.range (dB D)).foldl (fun s b => lmoor s b (dAt D b)) (dStart0 D)) b < dS D
  rw [e]
  exact (hD.2.2.2.2.2.2.1 b hb).2.2
theorem addE_F {D : tD} {g : gS} {k b p S : Nat} : gF (addE D g k b p S) = gF g := by
  unfold addE
  split
  · rfl
  · split
    · split <;> rfl
    · split <;> rfl
theorem exS_F {D : tD} {act ho lo k s b p : Nat} : ∀ (l : List Nat) (g : gS), gF (exS D act ho lo k s b p l g) = gF g := by
  intro l
  induction l with
  | nil => intro g; rfl
  | cons a l ih =>
    intro g
    show gF (exS D act ho lo k s b p l (if okE D act ho lo s b p a = true then addE D g k b p a else g)) = gF g
    rw [ih]
    split
    · exact addE_F
    · rfl
theorem exP_F {D : tD} {act ho lo k s b : Nat} : ∀ (l : List Nat) (g : gS), gF (exP D act ho lo k s b l g) = gF g := by
  intro l
  induction l with
  | nil => intro g; rfl
  | cons a l ih =>
    intro g
    show gF (exP D act ho lo k s b l (exS D act ho lo k s b a (List.range' 1 (dAll D)) g)) = gF g
    rw [ih, exS_F]
theorem exB_F {D : tD} {act ho lo k s : Nat} : ∀ (l : List Nat) (g : gS), gF (exB D act ho lo k s l g) = gF g := by
  intro l
  induction l with
  | nil => intro g; rfl
  | cons a l ih =>
    intro g
    show gF (exB D act ho lo k s l (exP D act ho lo k s a (List.range' 0 (dS D)) g)) = gF g
    rw [ih, exP_F]
theorem RU.up {t t' : zT} {I I' : Nat → Nat → Int} {D : tD} (h : RU t I D) (ht : t_rb t' = t_rb t) (r : ∀ a, a < 1040 → I' a = I a) : RU t' I' D := by
  obtain ⟨h1, h2, h3, h4⟩ := h
  refine ⟨?_, fun S hS => ?_, fun S p q l z1 z2 z3 z4 z5 => ?_, h4⟩
  · rw [ht]
    exact h1.fr (r _ (by have := zmd_lt (t_rb t); omega)) (fun k => r _ (by have := zmf_lt (t_rb t) k; omega))
  · rw [r 916 (by decide), r 948 (by decide), r 980 (by decide), r 1012 (by decide)]
    exact h2 S hS
  · rw [r 884 (by decide)]
    exact h3 S p q l z1 z2 z3 z4 z5
theorem GC.up {t : zT} {I I' : Nat → Nat → Int} {D : tD} {g : gS} (h : GC t I D g) (hr : ∀ a, a = 1108 ∨ a = 1140 ∨ a = 1236 ∨ a = t_e t → I' a = I a) (e : ∀ k, k < 6 → I' 1057 k = I 1057 k) : GC t I' D g := by
  rcases h with ⟨h1, h2, h2b, h3⟩ | ⟨h1, h2, h3, ⟨s1, ⟨T, w1, w2, w3, w4⟩, s3, s4⟩, h5, h6⟩
  · refine Or.inl ⟨h1, ?_, ?_, fun i hi => ?_⟩
    · rw [e 2 (by decide)]; exact h2
    · rw [e 3 (by decide)]; exact h2b
    · rw [hr 1108 (Or.inl rfl)]; exact h3 i hi
  · refine Or.inr ⟨h1, ?_, ?_, ⟨?_, ⟨T, w1, fun k hk => ?_, fun i hi => ?_, w4⟩, fun k hk => ?_, ?_⟩, fun k hk => ?_, h6⟩
    · rw [e 2 (by decide)]; exact h2
    · rw [e 4 (by decide)]; exact h3
    · rw [e 3 (by decide)]; exact s1
    · rw [hr 1108 (Or.inl rfl)]; exact w2 k hk
    · rw [hr 1236 (Or.inr (Or.inr (Or.inl rfl)))]; exact w3 i hi
    · rw [hr 1140 (Or.inr (Or.inl rfl))]; exact s3 k hk
    · rw [e 5 (by decide)]; exact s4
    · rw [hr (t_e t) (Or.inr (Or.inr (Or.inr rfl)))]; exact h5 k hk
/-- what build's loop leaves alone -/
def FO (I I' J J' : Nat → Nat → Int) : Prop := (∀ a, a < 3392 → ¬ a = 884 → ¬ a = 1044 → ¬ a = 1057 → ¬ a = 1108 → ¬ a = 1140 → ¬ a = 1236 → ¬ a = 1204 → ¬ a = 1172 → I' a = I a) ∧ (∀ k, k < 2 ∨ 5 < k → ¬ k = 9 → I' 1057 k = I 1057 k) ∧ ∀ a, a < 3392 → J' a = J a
theorem FO.rf (I J : Nat → Nat → Int) : FO I I J J := ⟨fun _ _ _ _ _ _ _ _ _ _ => rfl, fun _ _ _ => rfl, fun _ _ => rfl⟩
theorem FO.tr {I I1 I2 J J1 J2 : Nat → Nat → Int} (h : FO I I1 J J1) (h' : FO I1 I2 J1 J2) : FO I I2 J J2 := ⟨fun a h1 h2 h3 h4 h5 h6 h7 h8 h9 => (h'.1 a h1 h2 h3 h4 h5 h6 h7 h8 h9).trans (h.1 a h1 h2 h3 h4 h5 h6 h7 h8 h9), fun k hk hk9 => (h'.2.1 k hk hk9).trans (h.2.1 k hk hk9), fun a ha => (h'.2.2 a ha).trans (h.2.2 a ha)⟩
theorem FO.fa {I I' J J' : Nat → Nat → Int} (h : FA I I' J J') : FO I I' J J' := ⟨fun a h1 h2 h3 h4 h5 h6 h7 h8 _ => h.1 a h1 h2 h3 h4 h5 h6 h7 h8, fun k hk _ => h.2.1 k hk, h.2.2⟩
theorem FT.fo {I I' J J' : Nat → Nat → Int} {D : tD} {act b ho lo m : Nat} (h : FT I D act b ho lo m) (hf : FO I I' J J') : FT I' D act b ho lo m := fun S h1 h2 h3 => by
  rw [hf.1 1270 (by decide) (by decide) (by decide) (by decide) (by decide) (by decide) (by decide) (by decide) (by decide)]
  exact h S h1 h2 h3
/-- all that holds between two states -/
def OC (t0 : zT) (I0 J0 : Nat → Nat → Int) (D : tD) (act : Nat) (t : zT) (I J : Nat → Nat → Int) (g : gS) : Prop := tR t0 t ∧ FO I0 I J0 J ∧ RU t I D ∧ GC t I D g ∧ gOk D act g
section
variable {sc : mS} {d : Nat} {t : zT} {I J : Nat → Nat → Int} {Q : zR → zW → Prop} {D : tD}
theorem k25loop {act ho lo : Nat} {t0 : zT} {I0 J0 : Nat → Nat → Int} {x1 x2 x3 x4 x5 : Int} (hd : 6 ≤ d) (hgb : t_gb t0 = t_rb t0) (hact : act < 4096) (ha : I0 1057 8 = act) (h5 : x5 = if dShores D (dStart D) &&& act = 0 then 0 else 1) (hft : ∀ b, b < dB D → FT I0 D act b (if b = 0 then ho else dHo D b) (if b = 0 then lo else dLo D b) 256) (gF0 : gS)
    (h : ∀ (t' : zT) (I' J' : Nat → Nat → Int), OC t0 I0 J0 D act t' I' J' gF0 → (gSp gF0 = false → ∀ i, i ≤ gN gF0 → I' 1172 i = gF gF0 i) → Q (.inl (some (vi (if gSp gF0 = true then -2 else gg D (gX gF0) (gDp gF0) (gN gF0))))) (z_cfg t', I', J')) :
    ∀ (f k : Nat) (t1 : zT) (I1 J1 : Nat → Nat → Int) (g : gS) (v7 : zV), k + f = 2001 → OC t0 I0 J0 D act t1 I1 J1 g → k ≤ gN g → (gSp g = false → 0 < k → ∀ i, i ≤ k → I1 1172 i = gF g i) → gF g k = gM g → gF0 = gRun D act ho lo f k g →
      Go sc d mt_25 132 [vr 1057, vi x1, vi x2, vi x3, vi x4, vi x5, vi (k : Int), v7] [] (z_cfg t1, I1, J1) Q := by
  intro f
  induction f with
  | zero =>
    intro k t1 I1 J1 g v7 hk hO hkn
    have := hO.2.2.2.2.1.1
    omega
  | succ f ih =>
    intro k t1 I1 J1 g v7 hk hO hkn hrow hFM hgF
    have hO0 := hO
    obtain ⟨oR, oF, oU, oG, oO⟩ := hO
    have hD := oU.2.2.2
    have hB := hD.2.2.1
    have hN := oO.1.1
    have hN1 := oO.1.2
    -- the end
    have fin : gRun D act ho lo (f + 1) k g = g → (gSp g = true ∨ k = gN g) → Go sc d mt_25 254 [vr 1057, vi x1, vi x2, vi x3, vi x4, vi x5, vi (k : Int), v7] [] (z_cfg t1, I1, J1) Q := by
      intro e hend
      rw [e] at hgF
      rw [hgF] at h
      refine b25_254 ?_
      rcases oG with ⟨s1, s2, s3, s4⟩ | ⟨s1, s2⟩
      · rw [s2]
        refine ⟨⟨by decide, by decide⟩, fun c => absurd c (by decide), fun _ => ?_⟩
        have := h t1 I1 J1 hO0 (fun z => by rw [s1] at z; cases z)
        rw [if_pos s1] at this
        exact this
      · rw [s2.1]
        refine ⟨⟨by decide, by decide⟩, fun _ => ?_, fun c => absurd rfl c⟩
        have hke : k = gN g := by
          rcases hend with q | q
          · rw [s1] at q; cases q
          · exact q
        have := h t1 I1 J1 hO0 (fun z i hi => hrow z (by omega) i (by omega))
        rw [if_neg (by rw [s1]; decide)] at this
        rw [s2.2.2.1.2.2.2]
        exact this
    have stop : ¬ (k < gN g ∧ gSp g = false) → gRun D act ho lo (f + 1) k g = g := fun c => by
      show (if k < gN g ∧ gSp g = false then _ else g) = g
      rw [if_neg c]
    refine b25_132 ?_
    rcases oG with ⟨s1, s2, s3, s4⟩ | ⟨s1, s2⟩
    · have st := stop (fun z => by rw [s1] at z; cases z.2)
      refine ⟨⟨by omega, by omega⟩, ⟨by omega, by omega⟩, fun _ => ⟨fun _ => ?_, fun _ => fin st (Or.inl s1)⟩, fun _ => fin st (Or.inl s1)⟩
      rw [s2]
      exact ⟨⟨by decide, by decide⟩, fun c => absurd c (by decide), fun _ => fin st (Or.inl s1)⟩
    · have oG : GC t1 I1 D g := Or.inr ⟨s1, s2⟩
      rw [s2.2.2.1.1]
      refine ⟨⟨by omega, by omega⟩, ⟨by omega, by omega⟩, fun c => ⟨fun _ => ?_, fun c2 => by omega⟩, fun c => fin (stop (fun z => by omega)) (Or.inr (by omega))⟩
      rw [s2.1]
      refine ⟨⟨by decide, by decide⟩, fun _ => ⟨⟨by omega, by omega⟩, ⟨by omega, by omega⟩, ?_⟩, fun c2 => absurd rfl c2⟩
      have hkl : k < gN g := by omega
      rw [Int.toNat_natCast, s2.2.1, (s2.2.2.1.2.2.1 k hkl).1]
      have hst := (oO.2.2.1 k hkl).1
      -- the memory where the state's crossings begin
      generalize hI2 : z_u (z_u I1 1172 k ((gM g : Nat) : Int)) 1057 9 (((gDp g k : Nat) : Int) + 1) = I2
      have r0 : ∀ a, ¬ a = 1057 → ¬ a = 1172 → I2 a = I1 a := fun a h1 h2 => by rw [← hI2, zu_ne h1, zu_ne h2]
      have r1 : ∀ j, ¬ j = 9 → I2 1057 j = I1 1057 j := fun j hj => by rw [← hI2, zu_nk hj, zu_ne (by decide : ¬ 1057 = 1172)]
      have r2 : ∀ j, I2 1172 j = if j = k then ((gM g : Nat) : Int) else I1 1172 j := fun j => by rw [← hI2, zu_ne (by decide : ¬ 1172 = 1057), zu_at]
      have r3 : I2 1057 9 = ((gDp g k + 1 : Nat) : Int) := by rw [← hI2, zu_same]; omega
      have hte := oR.2.1.2.2.2
      have oF2 : FO I1 I2 J1 J1 := ⟨fun a _ _ _ h4 _ _ _ _ h9 => r0 a h4 h9, fun j _ hj => r1 j hj, fun _ _ => rfl⟩
      have oU2 : RU t1 I2 D := oU.up rfl (fun a ha => r0 a (by omega) (by omega))
      have oG2 : GC t1 I2 D g := oG.up (fun a ha2 => r0 a (by omega) (by omega)) (fun j hj => r1 j (by omega))
      have hAC : AC t1 I2 J1 D act k (gX g k) t1 I2 J1 g := ⟨tR.rf oR.2.1, FA.rf I2 J1, oU2, oG2, oO, hkl, rfl, r3⟩
      have gb1 : t_gb t1 = t_rb t1 := by rw [oR.1.2.2.1, oR.1.2.1, hgb]
      -- behind the boats
      have beh : ∀ (t' : zT) (I' J' : Nat → Nat → Int) (x7 : Int) (g' : gS), g' = exK D act ho lo k g → gF g' = gF g → AC t1 I2 J1 D act k (gX g k) t' I' J' g' → Go sc d mt_25 235 [vr 1057, vi x1, vi x2, vi x3, vi x4, vi x5, vi (k : Int), vi x7] [] (z_cfg t', I', J') Q := by
        intro t' I' J' x7 g' e1 e2 hA
        obtain ⟨a1, a2, a3, a4, a5, a6, a7⟩ := hA
        have hte' := a1.2.1.2.2.2
        refine b25_235 ⟨⟨by omega, by omega⟩, ?_⟩
        rw [show (k : Int) + 1 = ((k + 1 : Nat) : Int) by omega, Int.toNat_natCast]
        have q0 : ∀ a, ¬ a = 1172 → z_u I' 1172 (k + 1) (I' 1057 4) a = I' a := fun a h1 => zu_ne h1
        refine ih (k + 1) t' _ J' (g_f g' (k + 1)) (vi x7) (by omega) ⟨oR.tr a1, (oF.tr oF2).tr ((FO.fa a2).tr ⟨fun a _ _ _ _ _ _ _ _ h9 => q0 a h9, fun j _ _ => by rw [q0 1057 (by decide)], fun _ _ => rfl⟩), a3.up rfl (fun a ha => q0 a (by omega)), ?_, a5⟩ (by show k + 1 ≤ gN g'; omega) (fun z _ i hi => ?_) ?_ ?_
        · exact a4.up (fun a ha2 => q0 a (by omega)) (fun j hj => by rw [q0 1057 (by decide)])
        · have z : gSp g' = false := z
          show z_u I' 1172 (k + 1) (I' 1057 4) 1172 i = ((upN (gF g') (k + 1) (gM g') i : Nat) : Int)
          rw [zu_at]
          by_cases e : i = k + 1
          · rw [if_pos e, e, upN_at]
            rcases a4 with ⟨w, -⟩ | ⟨-, w⟩
            · rw [z] at w; cases w
            · exact w.2.1
          · rw [if_neg e, upN_ne e, e2, a2.1 1172 (by decide) (by decide) (by decide) (by decide) (by decide) (by decide) (by decide) (by decide), r2]
            by_cases e3 : i = k
            · rw [if_pos e3, e3, hFM]
            · rw [if_neg e3]
              exact hrow s1 (by omega) i (by omega)
        · show upN (gF g') (k + 1) (gM g') (k + 1) = gM g'
          rw [upN_at]
        · rw [hgF, e1]
          show (if k < gN g ∧ gSp g = false then _ else g) = _
          rw [if_pos ⟨hkl, s1⟩]
      by_cases hbar : dShores D (dStart D) &&& act = 0
      · rw [if_pos hbar] at h5
        have hek : exK D act ho lo k g = exB D act ho lo k (gX g k) (List.range' 0 (dB D)) g := by unfold exK; rw [if_pos hbar]
        rw [h5] at beh ⊢
        refine k25boats (s := gX g k) (k := k) (act := act) (ho := ho) (lo := lo) hd gb1 hst (oO.2.2.2.1 hbar k hkl) (by omega) hact ?_ (fun b hb => ((hft b hb).fo oF).fo oF2) (exB D act ho lo k (gX g k) (List.range' 0 (dB D)) g) (fun t' I' J' x7 hA => beh t' I' J' x7 _ hek.symm (exB_F _ _) hA) (dB D) 0 t1 I2 J1 g (by omega) hAC rfl
        rw [r1 8 (by decide), oF.2.1 8 (by decide) (by decide)]
        exact ha
      · rw [if_neg hbar] at h5
        have hek : exK D act ho lo k g = g := by unfold exK; rw [if_neg hbar]
        have hC : CD (t_gb t1) I2 D := by rw [gb1]; exact oU2.1
        rw [h5] at beh ⊢
        refine b25_183 ?_
        rw [hC.2.2.1]
        exact ⟨⟨by decide, by decide⟩, ⟨by omega, by omega⟩, fun _ => ⟨⟨by decide, by decide⟩, fun c2 => absurd c2 (by decide), fun _ => beh t1 I2 J1 _ g hek.symm rfl hAC⟩, fun _ => beh t1 I2 J1 _ g hek.symm rfl hAC⟩
end
