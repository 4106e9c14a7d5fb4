/-! ===== the class: leadsOn, waysThrough, countWays, measure whole, firstStep ===== -/
section
variable {sc : mS} {d : Nat} {t : zT} {I J : Nat → Nat → Int} {Q : zR → zW → Prop} {D : tD}
theorem k69 {x2 x3 : Int} {act k e : Nat} {g : gS} {tm : Bool} (e2 : x2 = k) (e3 : x3 = ecC (gE g e)) (hd : 2 ≤ d) (hR : RW I D) (hD : dOk D) (hO : gOk D act g) (he : e < gM g) (hk : k < gN g) (h3 : I 1283 3 = ((tm.toNat : Nat) : Int)) (hL : inR (I 1332 k + wE D tm g e)) (hz : inR (I 1332 (tg g e))) (hw : inR (I 1460 (tg g e))) (h : Q (.inl (some (vi (if 0 < I 1460 (tg g e) ∧ I 1332 (tg g e) = I 1332 k + wE D tm g e then 1 else 0)))) (z_cfg t, I, J)) : Go sc d mt_69 0 [vr 1283, vr 1057, vi x2, vi x3, vn] [] (z_cfg t, I, J) Q := by
  subst e2 e3
  have hN := hO.1.1
  have hj : tg g e < gN g := (hO.2.2.2.2.2 e he).2.2.2
  refine b69_0 (c64 (by omega) (fun d' _ => k64g rfl hD hO he ?_))
  show Go sc d mt_69 4 [vr 1283, vr 1057, vi (k : Int), vi _, vn] [vi ((tg g e : Nat) : Int)] _ _
  refine b69_4 ?_
  rw [Int.toNat_natCast, Int.toNat_natCast]
  refine ⟨⟨by omega, by omega⟩, fun c => by omega, fun _ => ⟨fun _ => ⟨⟨by omega, by omega⟩, fun _ => ⟨⟨by omega, by omega⟩, hw, fun c => ?_, fun c => ?_⟩, fun c => by omega⟩, fun c => by omega⟩⟩
  · refine c65 (by omega) (fun d' _ => k65 rfl (by omega) hR hD hO he h3 ?_)
    refine b69_54 ⟨hz, hL, fun c2 => ?_, fun c2 => ?_⟩
    · rw [if_pos ⟨c, c2⟩] at h; exact h
    · rw [if_neg (fun z => c2 z.2)] at h; exact h
  · rw [if_neg (fun z => c z.1)] at h; exact h
theorem k68 {x2 : Int} {act k : Nat} {g : gS} {tm : Bool} (e2 : x2 = k) (hd : 3 ≤ d) (hG : GB t I D act g) (hs : gSp g = false) (hR : RW I D) (hF : ∀ i, i < gN g → gF g i ≤ gF g (i + 1) ∧ gF g (i + 1) ≤ gM g) (hk : k < gN g) (h3 : I 1283 3 = ((tm.toNat : Nat) : Int)) (hLk : 0 ≤ I 1332 k ∧ I 1332 k ≤ 811010000) (hz : ∀ y, y < gN g → inR (I 1332 y)) (hw : ∀ y, y < gN g → 0 ≤ I 1460 y ∧ I 1460 y ≤ 1000000000) (h : Q (.inl (some (vi (wThr D g tm (I 1332) (I 1460) k (eL0 g k) 0)))) (z_cfg t, I, J)) : Go sc d mt_68 0 [vr 1283, vr 1057, vi x2, vn, vn, vn] [] (z_cfg t, I, J) Q := by
  subst e2
  have hD := hG.2.2.1
  have hO := hG.2.2.2.2.1
  have hM := hO.2.1
  have hN := hO.1.1
  have hFk := hF k hk
  have loop : ∀ (m e : Nat) (a : Int) (v5 : zV), e + m = gF g (k + 1) → 0 ≤ a → a ≤ 1000000000 → Q (.inl (some (vi (wThr D g tm (I 1332) (I 1460) k (List.range' e m) a)))) (z_cfg t, I, J) → Go sc d mt_68 9 [vr 1283, vr 1057, vi (k : Int), vi a, vi (e : Int), v5] [] (z_cfg t, I, J) Q := by
    intro m
    induction m with
    | zero =>
      intro e a v5 he a1 a2 ha
      refine b68_9 (c62 (by omega) (fun d' _ => k62 (k := k + 1) (by omega) hG hs (by omega) ?_))
      exact b68_18 ⟨⟨by omega, by omega⟩, ⟨by omega, by omega⟩, fun c => by omega, fun _ => ha⟩
    | succ m ih =>
      intro e a v5 he a1 a2 ha
      have hj : tg g e < gN g := (hO.2.2.2.2.2 e (by omega)).2.2.2
      have hwz := hw _ hj
      have hwE := wE_in hD tm g e
      have ha : Q (.inl (some (vi (wThr D g tm (I 1332) (I 1460) k (List.range' (e + 1) m) (if 0 < I 1460 (tg g e) ∧ I 1332 (tg g e) = I 1332 k + wE D tm g e then wadd a (I 1460 (tg g e)) else a))))) (z_cfg t, I, J) := ha
      refine b68_9 (c62 (by omega) (fun d' _ => k62 (k := k + 1) (by omega) hG hs (by omega) ?_))
      refine b68_18 ⟨⟨by omega, by omega⟩, ⟨by omega, by omega⟩, fun _ => ?_, fun c => by omega⟩
      refine c63 (by omega) (fun d' _ => k63 rfl hG hs (by omega) ?_)
      refine b68_27 (c69 (by omega) (fun d' _ => k69 (e := e) rfl rfl (by omega) hR hD hO (by omega) hk h3 ⟨by omega, by omega⟩ (hz _ hj) ⟨by omega, by omega⟩ ?_))
      by_cases c : 0 < I 1460 (tg g e) ∧ I 1332 (tg g e) = I 1332 k + wE D tm g e
      · rw [if_pos c]
        rw [if_pos c] at ha
        have hb := wadd_in a1 hwz.1 a2
        refine b68_37 ⟨⟨by decide, by decide⟩, fun z => absurd z (by decide), fun _ => ?_⟩
        refine c64 (by omega) (fun d' _ => k64g rfl hD hO (by omega) ?_)
        refine b68_47 (c70 (by omega) (fun d' _ => k70 rfl (by show tg g e < 2000; omega) ?_))
        refine b68_50 ⟨⟨⟨by show _ ≤ a + I 1460 (tg g e); omega, by show a + I 1460 (tg g e) < _; omega⟩, ⟨by decide, by decide⟩⟩, ?_⟩
        refine b68_57 ?_
        rw [show (e : Int) + 1 = ((e + 1 : Nat) : Int) by omega]
        exact ih (e + 1) (wadd a (I 1460 (tg g e))) _ (by omega) (by omega) hb.2 ha
      · rw [if_neg c]
        rw [if_neg c] at ha
        refine b68_37 ⟨⟨by decide, by decide⟩, fun _ => b68_57 ?_, fun z => absurd rfl z⟩
        rw [show (e : Int) + 1 = ((e + 1 : Nat) : Int) by omega]
        exact ih (e + 1) a _ (by omega) a1 a2 ha
  refine b68_0 (c62 (by omega) (fun d' _ => k62 rfl hG hs (by omega) ?_))
  exact b68_7 (loop (gF g (k + 1) - gF g k) (gF g k) 0 _ (by omega) (by decide) (by decide) h)
/-- what countWays leaves alone -/
def FW (I I' : Nat → Nat → Int) : Prop := ∀ a, ¬ a = 1460 → I' a = I a
theorem FW.o {I I' : Nat → Nat → Int} (h : FW I I') : ∀ a, ¬ (1283 ≤ a ∧ a ≤ 1460) → I' a = I a := fun a ha => h a (by omega)
/-- one more state is counted -/
theorem WC_put {g : gS} {tm : Bool} {s i c k : Nat} {T : Nat → Int} {O : Nat → Nat} {L wc wc' : Nat → Int} (hD : dOk D) (hTg : tgOk g) (hM : MG D g tm T s L) (hO : ∀ j, j < i → O j < gN g) (hs1 : ∀ j j', j ≤ j' → j' < i → L (O j) ≤ L (O j')) (hc : c < i) (hk : k = O c) (hinj : ∀ j j', j < i → j' < i → O j = O j' → j = j') (hwk : ∀ y, ¬ y = k → wc' y = wc y) (hold : ∀ j, c + 1 ≤ j → j < i → WC D g tm T s L wc (O j)) : ∀ j, c + 1 ≤ j → j < i → WC D g tm T s L wc' (O j) := by
  intro j h1 h2
  have hw := hold j h1 h2
  have hne : ¬ O j = k := fun z => by have := hinj j c h2 hc (z.trans hk); omega
  refine ⟨fun hon => ?_, fun hon => by rw [hwk _ hne]; exact hw.2 hon⟩
  obtain ⟨a1, a2, a3, a4⟩ := hw.1 hon
  rw [hwk _ hne]
  refine ⟨a1, a2, a3, fun hT => ?_⟩
  rw [a4 hT]
  refine wSum_cg _ _ (fun e he t1 t2 => ?_)
  have he := mem_eL0.mp he
  have h3 := ((on_step hTg hM (hO j h2) hon he).mp ⟨t1, t2⟩).2
  have h4 := wE_in hD tm g e
  have h5 := hs1 c j (by omega) h2
  exact (hwk _ (fun z => by rw [z, hk] at h3; omega)).symm
theorem k67 {g : gS} {tm : Bool} {act s i : Nat} {T : Nat → Int} {O H : Nat → Nat} (hd : 4 ≤ d) (hG : GB t I D act g) (hs : gSp g = false) (hR : RW I D) (hF : ∀ i, i < gN g → gF g i ≤ gF g (i + 1) ∧ gF g (i + 1) ≤ gM g) (h3 : I 1283 3 = ((tm.toNat : Nat) : Int)) (hT : TP D g tm T) (hJ : DJ D g tm s I i 0 O H) (hM : MG D g tm T s (I 1332)) (hl : I 1283 0 = T s) (hTr : inR (T s)) (h0 : ∀ y, y < 2000 → I 1460 y = 0)
    (h : ∀ I', FW I I' → (∀ k, k < gN g → WC D g tm T s (I 1332) (I' 1460) k) → Q (.inl none) (z_cfg t, I', J)) : Go sc d mt_67 0 [vr 1283, vr 1057, vn, vn] [] (z_cfg t, I, J) Q := by
  have hD := hG.2.2.1
  have hgO := hG.2.2.2.2.1
  have hN := hgO.1.1
  have hTg := gOk_tg hgO hF
  have hr := hJ.room
  have hRL := hJ.inR (by omega)
  have hOj := hJ.2.2.1
  have hinj := hJ.2.2.2.2.1
  have hs1 := hJ.2.2.2.2.2.2.2.1
  have hsN := hJ.2.2.2.2.2.2.2.2.2.2.1
  have hON : ∀ j, j < i → O j < gN g := fun j hj => (hOj j hj).2.1
  have hTs := hT.2.1 s hsN
  have fin : ∀ I1, FW I I1 → (∀ y, y < gN g → I 1332 y = 2147483647 → I1 1460 y = 0) → (∀ j, j < i → WC D g tm T s (I 1332) (I1 1460) (O j)) → Q (.inl none) (z_cfg t, I1, J) := by
    intro I1 hW hfar hwc
    refine h I1 hW (fun k hk => ?_)
    rcases hJ.set hN hk with z | ⟨j, hj, z⟩
    · exact ⟨fun hon => absurd z hon.1, fun _ => hfar k hk z⟩
    · rw [← z]; exact hwc j hj
  have loop : ∀ (c : Nat) (I1 : Nat → Nat → Int) (v3 : zV), c ≤ i → FW I I1 → (∀ j, c ≤ j → j < i → WC D g tm T s (I 1332) (I1 1460) (O j)) → (∀ j, j < c → I1 1460 (O j) = 0) → (∀ y, y < gN g → I 1332 y = 2147483647 → I1 1460 y = 0) → (∀ y, y < gN g → 0 ≤ I1 1460 y ∧ I1 1460 y ≤ 1000000000) → Go sc d mt_67 13 [vr 1283, vr 1057, vi ((c : Int) - 1), v3] [] (z_cfg t, I1, J) Q := by
    intro c
    induction c with
    | zero =>
      intro I1 v3 _ hW hwc _ hfar _
      exact b67_13 ⟨⟨by omega, by omega⟩, fun _ => fin I1 hW hfar (fun j hj => hwc j (by omega) hj), fun z => by omega⟩
    | succ c ih =>
      intro I1 v3 hci hW hwc hz hfar hb
      have hk := hON c (by omega)
      have hOc := hOj c (by omega)
      have e0 : I1 1283 0 = T s := by rw [hW 1283 (by decide)]; exact hl
      have eL : I1 1332 = I 1332 := hW 1332 (by decide)
      have eO : I1 1364 = I 1364 := hW 1364 (by decide)
      have hG1 := hG.to2 hW.o
      have hR1 := hR.to2 hW.o
      have hLf : ¬ I 1332 (O c) = 2147483647 := by omega
      have hg := hM.1 (O c) hk hLf
      refine b67_13 ?_
      rw [e0, show (((c + 1 : Nat) : Int) - 1).toNat = c by omega, eO, hOc.1, Int.toNat_natCast, eL]
      have LcR := hRL (O c) (by omega)
      have mk : ∀ (v : Int), (z_u I1 1460 (O c) v) 1460 = z_row (I1 1460) (O c) v := fun v => zu_row _ _ _ _
      have next : ∀ (I2 : Nat → Nat → Int), FW I1 I2 → (∀ y, ¬ y = O c → I2 1460 y = I1 1460 y) → WC D g tm T s (I 1332) (I2 1460) (O c) → (0 ≤ I2 1460 (O c) ∧ I2 1460 (O c) ≤ 1000000000) → Go sc d mt_67 102 [vr 1283, vr 1057, vi (((c + 1 : Nat) : Int) - 1), vi (O c : Int)] [] (z_cfg t, I2, J) Q := by
        intro I2 f1 f2 hw2 hb2
        refine b67_102 ?_
        rw [show (((c + 1 : Nat) : Int) - 1) + (-1) = (c : Int) - 1 by omega]
        refine ih I2 _ (by omega) (fun a ha => (f1 a ha).trans (hW a ha)) (fun j j1 j2 => ?_) (fun j hj => ?_) (fun y hy hf => ?_) (fun y hy => ?_)
        · by_cases q : j = c
          · rw [q]; exact hw2
          · exact WC_put hD hTg hM hON hs1 (by omega : c < i) rfl hinj f2 hwc j (by omega) j2
        · rw [f2 _ (fun z => by have := hinj j c (by omega) (by omega) z; omega)]
          exact hz j (by omega)
        · rw [f2 y (fun z => hLf (by rw [← z]; exact hf))]
          exact hfar y hy hf
        · by_cases q : y = O c
          · rw [q]; exact hb2
          · rw [f2 y q]; exact hb y hy
      -- a later one
      have later : ∀ e, eIn g (O c) e → I 1332 (tg g e) = I 1332 (O c) + wE D tm g e → (0 < I1 1460 (tg g e) ↔ onW T (I 1332) s (tg g e)) := by
        intro e he hLz
        have hw := wE_in hD tm g e
        have hzN : tg g e < gN g := hTg _ hk e he.1 he.2
        rcases hJ.set hN hzN with z | ⟨j, hj, z⟩
        · omega
        · have hjc : c + 1 ≤ j := by
            rcases Nat.lt_or_ge c j with q | q
            · omega
            · have := hs1 j c q (by omega)
              rw [z] at this
              omega
          have hwj := hwc j hjc hj
          rw [z] at hwj
          constructor
          · intro hp
            rcases Classical.em (onW T (I 1332) s (tg g e)) with q | q
            · exact q
            · have := hwj.2 q; omega
          · intro hon
            have := (hwj.1 hon).1
            omega
      have from57 : ¬ (I 1332 (O c) = T s ∧ dGoal D (gX g (O c)) = true) → Go sc d mt_67 77 [vr 1283, vr 1057, vi (((c + 1 : Nat) : Int) - 1), vi (O c : Int)] [] (z_cfg t, I1, J) Q := by
        intro hng
        refine b67_77 ?_
        rw [e0, eL, Int.toNat_natCast]
        refine ⟨⟨by omega, by omega⟩, LcR, hTr, fun q => ?_, fun q => ?_⟩
        · refine c68 (by omega) (fun d' _ => k68 (tm := tm) rfl (by omega) hG1 hs hR1 hF hk (by rw [hW 1283 (by decide)]; exact h3) (by rw [eL]; exact hg) (fun y hy => by rw [eL]; exact hRL y (by omega)) hb ?_)
          rw [eL]
          generalize hv : wThr D g tm (I 1332) (I1 1460) (O c) (eL0 g (O c)) 0 = v
          have hwcv : ∀ y, ¬ y = O c → (z_u I1 1460 (O c) v) 1460 y = I1 1460 y := fun y hy => by rw [mk, zrow_ne hy]
          have hself : (z_u I1 1460 (O c) v) 1460 (O c) = v := by rw [mk, zrow_at]
          have hnn : ∀ e, e ∈ eL0 g (O c) → 0 ≤ T (tg g e) → 0 ≤ I1 1460 (tg g e) := fun e he _ => (hb _ (hTg _ hk e (mem_eL0.mp he).1 (mem_eL0.mp he).2)).1
          refine b67_101 ⟨⟨by omega, by omega⟩, ?_⟩
          rw [Int.toNat_natCast]
          rcases Classical.em (onW T (I 1332) s (O c)) with hon | hon
          · have ev : v = wSum D g tm T (I1 1460) (O c) (eL0 g (O c)) 0 := by
              rw [← hv]
              refine wThr_eq _ _ (fun e he => ?_)
              have he := mem_eL0.mp he
              rw [on_step hTg hM hk hon he]
              constructor
              · rintro ⟨a, b⟩; exact ⟨(later e he b).mp a, b⟩
              · rintro ⟨a, b⟩; exact ⟨(later e he b).mpr a, b⟩
            have hTk : 0 < T (O c) := by have := hon.2.2; omega
            have hin := wSum_in (D := D) (tm := tm) (k := O c) (eL0 g (O c)) 0 hnn (Int.le_refl _) (by decide)
            obtain ⟨e, y1, y2, y3⟩ := hT.2.2.2 _ hk hTk
            have hst := (on_step hTg hM hk hon y1).mp ⟨y2, by omega⟩
            have hp := wSum_pos (D := D) (tm := tm) (T := T) (wc := I1 1460) (k := O c) (e := e) ⟨y2, by omega⟩ (by have := (later e y1 hst.2).mpr hst.1; omega) (eL0 g (O c)) 0 hnn (mem_eL0.mpr y1) (Int.le_refl _) (by decide)
            refine next _ (fun a ha => zu_ne ha) hwcv ⟨fun _ => ?_, fun z => absurd hon z⟩ (by rw [hself, ev]; exact ⟨hin.1, hin.2⟩)
            rw [hself]
            refine ⟨by rw [ev]; exact hp, by rw [ev]; exact hin.2, fun z => by omega, fun _ => ?_⟩
            rw [ev]
            refine wSum_cg _ _ (fun e' he' t1 t2 => ?_)
            have he' := mem_eL0.mp he'
            have h6 := ((on_step hTg hM hk hon he').mp ⟨t1, t2⟩).2
            have h7 := wE_in hD tm g e'
            rw [← ev, hwcv _ (fun z => by rw [z] at h6; omega)]
          · have ev : v = 0 := by
              rw [← hv]
              refine wThr_0 _ _ (fun e he z => hon ?_)
              have he := mem_eL0.mp he
              exact on_back hT hM hk hLf he ((later e he z.2).mp z.1) z.2
            exact next _ (fun a ha => zu_ne ha) hwcv ⟨fun z => absurd z hon, fun _ => by rw [hself]; exact ev⟩ (by rw [hself, ev]; exact ⟨by decide, by decide⟩)
        · refine next I1 (fun _ _ => rfl) (fun _ _ => rfl) ⟨fun hon => ?_, fun _ => hz c (by omega)⟩ (by rw [hz c (by omega)]; exact ⟨by decide, by decide⟩)
          have h1 := hon.2.1
          have h2 := hon.2.2
          exact absurd ⟨by omega, (hT.1 _ hk).mp (by omega)⟩ hng
      refine ⟨⟨by omega, by omega⟩, fun z => by omega, fun _ => ⟨hTr, fun q => ?_, fun q => ⟨⟨by omega, by omega⟩, ⟨by omega, by omega⟩, fun z => by omega, fun _ => ⟨fun _ => ⟨LcR, fun q2 => ?_, fun q2 => from57 (fun z => q2 z.1)⟩, fun z => by omega⟩⟩⟩⟩
      · refine fin I1 hW hfar (fun j hj => ?_)
        by_cases q2 : c + 1 ≤ j
        · exact hwc j q2 hj
        · refine ⟨fun hon => ?_, fun _ => hz j (by omega)⟩
          have h1 := hon.2.1
          have h2 := hon.2.2
          have h5 := (hOj j hj).2.2.1
          omega
      · refine c61 (by omega) (fun d' _ => k61 rfl (by omega) hG1 hs hk ?_)
        cases hgl : dGoal D (gX g (O c)) with
        | false => exact b67_64 ⟨⟨by decide, by decide⟩, fun _ => from57 (fun z => by rw [hgl] at z; cases z.2), fun z => absurd rfl z⟩
        | true =>
          refine b67_64 ⟨⟨by decide, by decide⟩, fun z => absurd z (by decide), fun _ => ⟨⟨by omega, by omega⟩, ?_⟩⟩
          rw [Int.toNat_natCast]
          have hself : (z_u I1 1460 (O c) 1) 1460 (O c) = 1 := by rw [mk, zrow_at]
          have hT0 := (hT.1 _ hk).mpr hgl
          have hon : onW T (I 1332) s (O c) := ⟨hLf, by omega, by omega⟩
          exact next _ (fun a ha => zu_ne ha) (fun y hy => by rw [mk, zrow_ne hy]) ⟨fun _ => by rw [hself]; exact ⟨by decide, by decide, fun _ => rfl, fun z => by omega⟩, fun z => absurd hon z⟩ (by rw [hself]; exact ⟨by decide, by decide⟩)
  refine b67_0 ?_
  rw [hJ.1.2]
  refine ⟨⟨⟨by omega, by omega⟩, ⟨by decide, by decide⟩⟩, ?_⟩
  rw [if_neg (by omega)]
  exact loop i I vn (Nat.le_refl _) (fun _ _ => rfl) (fun j h1 h2 => by omega) (fun j hj => h0 _ (by have := hON j hj; omega)) (fun y hy _ => h0 y (by omega)) (fun y hy => by rw [h0 y (by omega)]; exact ⟨by decide, by decide⟩)
end
