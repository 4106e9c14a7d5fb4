/-! ===== the class: addCrossings and build ===== -/
section
variable {sc : mS} {d : Nat} {t : zT} {I J : Nat → Nat → Int} {Q : zR → zW → Prop} {D : tD}
theorem k49shores {s b k act ho lo : Nat} {t0 : zT} {I0 J0 : Nat → Nat → Int} (hd : 5 ≤ d) (hgb : t_gb t0 = t_rb t0) (hs : stOk D s) (hun : dShores D s &&& act = 0) (hb : b < dB D) (hact : act < 4096) (ha : I0 1057 8 = act) (hgo : dLamp D = -1 ∨ llamp s = lberth s b) (hft : FT I0 D act b (if b = 0 then ho else dHo D b) (if b = 0 then lo else dLo D b) 256) (gF0 : gS)
    (h : ∀ (t' : zT) (I' J' : Nat → Nat → Int), AC t0 I0 J0 D act k s t' I' J' gF0 → Q (.inl none) (z_cfg t', I', J')) :
    ∀ (m p : Nat) (t1 : zT) (I1 J1 : Nat → Nat → Int) (g : gS) (v7 v8 v9 v10 : zV), p + m = dS D → AC t0 I0 J0 D act k s t1 I1 J1 g → gF0 = exP D act ho lo k s b (List.range' p m) g →
      Go sc d mt_49 36 [vr 1057, vi (s : Int), vi (b : Int), vi (lberth s b : Int), vi (lash s (lberth s b) (dT D) : Int), vi ((cntb (dB D) s (lberth s b) : Int) - 1), vi (p : Int), v7, v8, v9, v10] [] (z_cfg t1, I1, J1) Q := by
  intro m
  induction m with
  | zero =>
    intro p t1 I1 J1 g v7 v8 v9 v10 hp hAC hgF
    have gb1 : t_gb t1 = t_rb t1 := by rw [hAC.1.1.2.2.1, hAC.1.1.2.1, hgb]
    have hC : CD (t_gb t1) I1 D := by rw [gb1]; exact hAC.2.2.1.1
    have hS4 := hAC.2.2.1.2.2.2.1
    refine b49_36 ?_
    rw [hC.1]
    have : gF0 = g := hgF
    rw [this] at h
    exact ⟨⟨by omega, by omega⟩, ⟨by omega, by omega⟩, fun c => by omega, fun _ => h t1 I1 J1 hAC⟩
  | succ m ih =>
    intro p t1 I1 J1 g v7 v8 v9 v10 hp hAC hgF
    have gb1 : t_gb t1 = t_rb t1 := by rw [hAC.1.1.2.2.1, hAC.1.1.2.1, hgb]
    have hC : CD (t_gb t1) I1 D := by rw [gb1]; exact hAC.2.2.1.1
    have hD := hAC.2.2.1.2.2.2
    have hS4 := hD.1
    refine b49_36 ?_
    rw [hC.1]
    refine ⟨⟨by omega, by omega⟩, ⟨by omega, by omega⟩, fun _ => ?_, fun c => by omega⟩
    refine c27 (by omega) (fun d' _ => k27 hC hD ?_)
    refine b49_58 (c43 (by omega) (fun d' _ => k43 (n := dT D) rfl rfl rfl hs.1 (by omega) hD.2.1 ?_))
    refine b49_61 (c44 (by omega) (fun d' _ => k44 rfl rfl (by omega) hC hD hs.1 (by omega) ?_))
    refine b49_73 ?_
    rw [rng_cons] at hgF
    refine k49sets (p := p) (act := act) (ho := ho) (lo := lo) hd hgb hs hun hb (by omega) hact ha hgo hft (exS D act ho lo k s b p (List.range' 1 (dAll D)) g) (fun t' I' J' x9 x10 hA => ?_) (dAll D) 0 0 t1 I1 J1 g (by omega) (Nat.zero_and _) (Nat.le_refl _) hAC rfl
    exact b49_224 (ih (p + 1) t' I' J' _ _ _ _ _ (by omega) hA hgF)
theorem k49 {x1 x2 : Int} {s b k act ho lo : Nat} {g : gS} (e1 : x1 = s) (e2 : x2 = b) (hd : 5 ≤ d) (hgb : t_gb t = t_rb t) (hs : stOk D s) (hun : dShores D s &&& act = 0) (hb : b < dB D) (hact : act < 4096) (ha : I 1057 8 = act) (hgo : dLamp D = -1 ∨ llamp s = lberth s b) (hft : FT I D act b (if b = 0 then ho else dHo D b) (if b = 0 then lo else dLo D b) 256) (hAC : AC t I J D act k s t I J g)
    (h : ∀ (t' : zT) (I' J' : Nat → Nat → Int), AC t I J D act k s t' I' J' (exP D act ho lo k s b (List.range' 0 (dS D)) g) → Q (.inl none) (z_cfg t', I', J')) :
    Go sc d mt_49 0 [vr 1057, vi x1, vi x2, vn, vn, vn, vn, vn, vn, vn, vn] [] (z_cfg t, I, J) Q := by
  subst e1 e2
  have hC : CD (t_gb t) I D := by rw [hgb]; exact hAC.2.2.1.1
  have hD := hAC.2.2.1.2.2.2
  have hB := hD.2.2.1
  have hl := lberth_lt s b
  refine b49_0 (c45 (by omega) (fun d' _ => k45 rfl rfl hs.1 (by omega) ?_))
  refine b49_5 (c27 (by omega) (fun d' _ => k27 hC hD ?_))
  refine b49_15 (c43 (by omega) (fun d' _ => k43 (n := dT D) rfl rfl rfl hs.1 (by omega) hD.2.1 ?_))
  refine b49_18 (c44 (by omega) (fun d' _ => k44 rfl rfl (by omega) hC hD hs.1 (by omega) ?_))
  refine b49_29 ?_
  exact k49shores hd hgb hs hun hb hact ha hgo hft _ h (dS D) 0 t I J g vn vn vn vn (by omega) hAC rfl
theorem FT.fa {I' J' : Nat → Nat → Int} {act b ho lo m : Nat} (h : FT I D act b ho lo m) (hf : FA I I' J J') : FT I' D act b ho lo m := fun S h1 h2 h3 => by
  rw [hf.1 1270 (by decide) (by decide) (by decide) (by decide) (by decide) (by decide) (by decide) (by decide)]
  exact h S h1 h2 h3
theorem AC.next {t0 t1 t2 : zT} {I0 I1 I2 J0 J1 J2 : Nat → Nat → Int} {act k s : Nat} {g g' : gS} (h : AC t0 I0 J0 D act k s t1 I1 J1 g) (h' : AC t1 I1 J1 D act k s t2 I2 J2 g') : AC t0 I0 J0 D act k s t2 I2 J2 g' := by
  obtain ⟨a1, a2, a3, a4, a5, a6, a7, a8⟩ := h'
  exact ⟨h.1.tr a1, h.2.1.tr a2, a3, a4, a5, a6, a7, by rw [← h.2.1.2.1 9 (by decide)]; exact a8⟩
theorem AC.here {t0 t1 : zT} {I0 I1 J0 J1 : Nat → Nat → Int} {act k s : Nat} {g : gS} (h : AC t0 I0 J0 D act k s t1 I1 J1 g) : AC t1 I1 J1 D act k s t1 I1 J1 g := by
  obtain ⟨a1, a2, a3, a4, a5, a6, a7, a8⟩ := h
  exact ⟨tR.rf a1.2.1, FA.rf I1 J1, a3, a4, a5, a6, a7, by rw [a2.2.1 9 (by decide)]; exact a8⟩
/-- all boats of one state -/
theorem k25boats {s k act ho lo : Nat} {t0 : zT} {I0 J0 : Nat → Nat → Int} {x1 x2 x3 x4 : Int} (hd : 6 ≤ d) (hgb : t_gb t0 = t_rb t0) (hs : stOk D s) (hun : dShores D s &&& act = 0) (hk : k < 2000) (hact : act < 4096) (ha : I0 1057 8 = act) (hft : ∀ b, b < dB D → FT I0 D act b (if b = 0 then ho else dHo D b) (if b = 0 then lo else dLo D b) 256) (gF0 : gS)
    (h : ∀ (t' : zT) (I' J' : Nat → Nat → Int) (x7 : Int), AC t0 I0 J0 D act k s t' I' J' gF0 → Go sc d mt_25 235 [vr 1057, vi x1, vi x2, vi x3, vi x4, vi 0, vi (k : Int), vi x7] [] (z_cfg t', I', J') Q) :
    ∀ (m b : Nat) (t1 : zT) (I1 J1 : Nat → Nat → Int) (g : gS), b + m = dB D → AC t0 I0 J0 D act k s t1 I1 J1 g → gF0 = exB D act ho lo k s (List.range' b m) g →
      Go sc d mt_25 183 [vr 1057, vi x1, vi x2, vi x3, vi x4, vi 0, vi (k : Int), vi (b : Int)] [] (z_cfg t1, I1, J1) Q := by
  intro m
  induction m with
  | zero =>
    intro b t1 I1 J1 g hb hAC hgF
    have gb1 : t_gb t1 = t_rb t1 := by rw [hAC.1.1.2.2.1, hAC.1.1.2.1, hgb]
    have hC : CD (t_gb t1) I1 D := by rw [gb1]; exact hAC.2.2.1.1
    have hB := hAC.2.2.1.2.2.2.2.2.1
    refine b25_183 ?_
    rw [hC.2.2.1]
    have : gF0 = g := hgF
    rw [this] at h
    exact ⟨⟨by omega, by omega⟩, ⟨by omega, by omega⟩, fun c => by omega, fun _ => h t1 I1 J1 _ hAC⟩
  | succ m ih =>
    intro b t1 I1 J1 g hb hAC hgF
    have gb1 : t_gb t1 = t_rb t1 := by rw [hAC.1.1.2.2.1, hAC.1.1.2.1, hgb]
    have hC : CD (t_gb t1) I1 D := by rw [gb1]; exact hAC.2.2.1.1
    have hD := hAC.2.2.1.2.2.2
    have hB := hD.2.2.1
    rw [rng_cons] at hgF
    have hrow1 : I1 1108 k = s := by rw [hAC.2.2.2.1.row hAC.2.2.2.2.2.1, hAC.2.2.2.2.2.2.1]
    refine b25_183 ?_
    rw [hC.2.2.1, Int.toNat_natCast, hrow1]
    refine ⟨⟨by omega, by omega⟩, ⟨by omega, by omega⟩, fun _ => ⟨⟨by decide, by decide⟩, fun _ => ⟨⟨by omega, by omega⟩, ?_⟩, fun c => absurd rfl c⟩, fun c => by omega⟩
    refine c48 (by omega) (fun d' _ => k48 rfl rfl (by omega) hC hD hs.1 (by omega) ?_)
    refine b25_213 ?_
    rw [Int.toNat_natCast, hrow1]
    by_cases hgo : dLamp D = -1 ∨ llamp s = lberth s b
    · rw [decide_eq_true hgo]
      refine ⟨⟨by decide, by decide⟩, fun c => absurd c (by decide), fun _ => ⟨⟨by omega, by omega⟩, ?_⟩⟩
      refine c49 (by omega) (fun d' _ => k49 (k := k) (act := act) (ho := ho) (lo := lo) (g := g) rfl rfl (by omega) gb1 hs hun (by omega) hact ?_ hgo ((hft b (by omega)).fa hAC.2.1) hAC.here (fun t' I' J' hA => ?_))
      · rw [hAC.2.1.2.1 8 (by decide)]; exact ha
      · exact b25_229 (ih (b + 1) t' I' J' _ (by omega) (hAC.next hA) hgF)
    · rw [decide_eq_false hgo]
      refine ⟨⟨by decide, by decide⟩, fun _ => b25_229 (ih (b + 1) t1 I1 J1 g (by omega) hAC ?_), fun c => absurd rfl c⟩
      have e : exP D act ho lo k s b (List.range' 0 (dS D)) g = g := exP_no _ _ (fun p _ S => by
        cases hq : okE D act ho lo s b p S
        · rfl
        · exact absurd (okE_s hq).2.2.1 hgo)
      have : exB D act ho lo k s (b :: List.range' (b + 1) m) g = exB D act ho lo k s (List.range' (b + 1) m) (exP D act ho lo k s b (List.range' 0 (dS D)) g) := rfl
      rw [this, e] at hgF
      exact hgF
end
