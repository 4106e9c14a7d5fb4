/-! ===== rounds, the class: fewestRounds ===== -/
theorem NV.first {D : tD} : NV D 0 1 (upN (fun _ => 0) 0 (rN0 D)) (upI (fun _ => -1) (rN0 D) 0) := by
  have e : upN (fun _ => 0) 0 (rN0 D) 0 = rN0 D := upN_at _ _ _
  have e2 : upI (fun _ => -1) (rN0 D) 0 (rN0 D) = 0 := by unfold upI; rw [if_pos rfl]
  have z : ∀ j, j < 1 → j = 0 := fun j hj => by omega
  refine ⟨e2, fun j hj => ⟨0, ?_, ?_, by omega⟩, fun a b h1 h2 => ?_, fun a b h1 h2 h3 => ?_, fun s hs => ⟨0, by omega, ?_⟩, fun j hj => absurd hj (by omega), by omega⟩
  · rw [z j hj, e, e2]; rfl
  · rw [z j hj, e]; rfl
  · rw [z a (by omega), z b (by omega)]; exact Int.le_refl _
  · rw [z a (by omega), z b (by omega)]; omega
  · rw [e]
    unfold upI at hs
    by_cases c : s = rN0 D
    · exact c.symm
    · rw [if_neg c] at hs; exact absurd rfl hs
section
variable {sc : mS} {d : Nat} {t : zT} {I J : Nat → Nat → Int} {Q : zR → zW → Prop} {D : tD}
theorem k76 (hd : 6 ≤ d) (hU : RU t I D) (h6 : ∀ i, i < 2 → inR (I (z_mf (t_rb t) 6) i)) (h5 : 0 ≤ I 1510 5 ∧ I 1510 5 ≤ 1024) (h0 : inR (I 1510 0))
    (hk : ¬ I 1510 0 = -3 → Q (.inl (some (vi (I 1510 0)))) (z_cfg t, I, J))
    (h : I 1510 0 = -3 → ∀ (I' : Nat → Nat → Int) (a : Int), rFZ I I' → RU t I' D → (0 ≤ I' 1510 5 ∧ I' 1510 5 ≤ 1024) → I' 1510 0 = a → rAns D a → (-2 ≤ a ∧ a ≤ 1024) → Q (.inl (some (vi a))) (z_cfg (t_sob t (t_rb t)), I', J)) : Go sc d mt_76 0 [vr 1510, vn, vn] [] (z_cfg t, I, J) Q := by
  have hD := hU.2.2.2
  have hA := dAll_lt hD
  have hS4 := hD.1
  have hsl := (start_ok hD).1
  refine b76_0 ⟨h0, fun c0 => ?_, fun c0 => hk c0⟩
  have h := h c0
  generalize ht : t_sob t (t_rb t) = t' at h ⊢
  have hob : t_ob t' = t_rb t' := by rw [← ht]; rfl
  have hrb : t_rb t' = t_rb t := by rw [← ht]; rfl
  have toU : ∀ I1, RU t' I1 D → RU t I1 D := fun I1 u => u.up hrb.symm (fun _ _ => rfl)
  have U0 : RU t' (z_u I 1510 0 (-2)) D := hU.up hrb (fun a ha => zu_ne (by omega))
  have cdo : ∀ I1, RU t' I1 D → CD (t_ob t') I1 D := fun I1 u => by rw [hob]; exact u.1
  /- an answer stands: the loop ends -/
  have fin : ∀ (I1 : Nat → Nat → Int) (a x1 x2 : Int), rFZ I I1 → RU t' I1 D → (0 ≤ I1 1510 5 ∧ I1 1510 5 ≤ 1024) → I1 1510 0 = a → ¬ a = -1 → inR x2 → rAns D a → (-2 ≤ a ∧ a ≤ 1024) → Go sc d mt_76 72 [vr 1510, vi x1, vi x2] [] (z_cfg t', I1, J) Q := by
    intro I1 a x1 x2 f1 U1 r5 e0 hne hx hA hb
    have q := h I1 a f1 (toU I1 U1) r5 e0 hA hb
    refine b76_72 ?_
    rw [e0]
    exact ⟨hx, ⟨by omega, by omega⟩, fun _ => ⟨fun _ => ⟨⟨by omega, by omega⟩, fun z => absurd z hne, fun _ => q⟩, fun _ => q⟩, fun _ => q⟩
  /- to the loop -/
  have toLoop : ∀ (I1 : Nat → Nat → Int), RU t' I1 D → (∀ (I2 : Nat → Nat → Int) (x1 : Int), FB I1 I2 → RU t' I2 D → x1 = (if dShores D (dStart D) = 0 then 0 else 1) → Go sc d mt_76 72 [vr 1510, vi x1, vi 0] [] (z_cfg t', I2, J) Q) → Go sc d mt_76 47 [vr 1510, vn, vn] [] (z_cfg t', I1, J) Q := by
    intro I1 U1 hq
    refine b76_47 (c16 (by omega) (fun d' _ => k16 (by omega) (cdo I1 U1) hD (b76_58 ?_)))
    refine c42 (by omega) (fun d' _ => k42 rfl (by omega) U1 hsl (fun I2 f2 U2 => b76_61 ?_))
    have hlt : dShores D (dStart D) < 2 ^ 12 := orN_lt (fun i _ => dBars_lt hD _ _ _ _)
    exact ⟨⟨by omega, by omega⟩, fun c => b76_69 (hq I2 0 f2 U2 (by rw [if_pos (by omega)])), fun c => b76_69 (hq I2 1 f2 U2 (by rw [if_neg (by omega)]))⟩
  have hzf : ∀ i, i < 2 → inR (z_u I 1510 0 (-2) (z_mf (t_ob t') 6) i) := fun i hi => by
    have e : z_u I 1510 0 (-2) (z_mf (t_ob t') 6) = I (z_mf (t_rb t) 6) := by
      rw [hob, hrb]
      exact zu_ne (by have := zmf_lt (t_rb t) 6; omega)
    rw [e]
    exact h6 i hi
  refine c77 (by omega) (fun d' _ => k77 hob U0 hzf (fun hT => b76_35 ⟨⟨by decide, by decide⟩, fun z => absurd z (by decide), fun _ => ?_⟩) (fun hT => b76_35 ⟨⟨by decide, by decide⟩, fun _ => ?_, fun z => absurd rfl z⟩))
  · have U1 : RU t' (z_u (z_u I 1510 0 (-2)) 1510 0 (-1)) D := U0.up rfl (fun a ha => zu_ne (by omega))
    have ans : ∀ a, rA D a → rAns D a := fun a ha => ⟨fun _ => ha, fun z => absurd hT z⟩
    have loop : ∀ (m i : Nat) (I1 : Nat → Nat → Int) (k1 : Nat) (q1 : Nat → Nat) (dp1 : Nat → Int) (x1 : Int), i + m = 1024 → x1 = (if dShores D (dStart D) = 0 then 0 else 1) → rFZ I I1 → RQS t' D I1 → I1 1510 0 = -1 → QD I1 k1 q1 dp1 → NV D i k1 q1 dp1 → Go sc d mt_76 72 [vr 1510, vi x1, vi (i : Int)] [] (z_cfg t', I1, J) Q := by
      intro m
      induction m with
      | zero =>
        intro i I1 k1 q1 dp1 x1 hi hx f1 R1 e0 hQ hN
        have hle := hQ.le
        have : i = k1 := by have := hN.2.2.2.2.2.2; omega
        subst this
        have q := h I1 (-1) f1 (toU I1 R1.1) (by rw [hQ.1]; omega) e0 (ans _ hN.fin) (by omega)
        refine b76_72 ?_
        rw [hQ.1, e0]
        exact ⟨⟨by omega, by omega⟩, ⟨by omega, by omega⟩, fun z => by omega, fun _ => q⟩
      | succ m ih =>
        intro i I1 k1 q1 dp1 x1 hi hx f1 R1 e0 hQ hN
        have hle := hQ.le
        have hik := hN.2.2.2.2.2.2
        have q := fun z : i = k1 => h I1 (-1) f1 (toU I1 R1.1) (by rw [hQ.1]; omega) e0 (ans _ (by subst z; exact hN.fin)) (by omega)
        refine b76_72 ?_
        rw [hQ.1, e0, Int.toNat_natCast]
        refine ⟨⟨by omega, by omega⟩, ⟨by omega, by omega⟩, fun c => ⟨fun _ => ⟨⟨by decide, by decide⟩, fun _ => ⟨⟨by omega, by omega⟩, ?_⟩, fun z => absurd rfl z⟩, fun z => by omega⟩, fun c => q (by omega)⟩
        have hlt : i < k1 := by omega
        have hqi := hQ.2.1 i hlt
        rw [hqi.1]
        have R2 : RQS t' D (z_u I1 1510 6 ((q1 i : Nat) : Int)) := R1.u (by decide)
        have Q2 : QD (z_u I1 1510 6 ((q1 i : Nat) : Int)) k1 q1 dp1 := by
          unfold QD
          rw [zu_nk (by decide), zu_ne (by decide : ¬ 1588 = 1510), zu_ne (by decide : ¬ 1556 = 1510)]
          exact hQ
        have e6 : z_u I1 1510 6 ((q1 i : Nat) : Int) 1510 6 = (q1 i : Nat) := zu_same _ _ _ _
        have e02 : z_u I1 1510 6 ((q1 i : Nat) : Int) 1510 0 = -1 := by rw [zu_nk (by decide)]; exact e0
        have f2 : rFZ I (z_u I1 1510 6 ((q1 i : Nat) : Int)) := f1.tr (rFZ.u I1 6 _)
        have g1 : zand ((q1 i : Nat) : Int) 255 = ((q1 i % 256 : Nat) : Int) := zandm 255 8 rfl (by decide) (by omega)
        have g2 : zand ((q1 i : Nat) : Int) 1023 = ((q1 i : Nat) : Int) := by
          rw [show (1023 : Int) = ((1023 : Nat) : Int) from rfl, zandm 1023 10 rfl (by decide) (by omega), Nat.mod_eq_of_lt (by omega)]
        refine c27 (by omega) (fun d' _ => k27 (cdo _ R2.1) hD (b76_120 ?_))
        rw [e6, g2, Int.toNat_natCast, g1, (Q2.2.2.1 (q1 i) hqi.2.1).1]
        obtain ⟨e, ee1, ee2, ee3⟩ := hN.2.1 i hlt
        have go151 : ∀ (I3 : Nat → Nat → Int) (k3 : Nat) (q3 : Nat → Nat) (dp3 : Nat → Int), rFZ I I3 → RQS t' D I3 → I3 1510 0 = -1 → QD I3 k3 q3 dp3 → NV D (i + 1) k3 q3 dp3 → Go sc d mt_76 151 [vr 1510, vi x1, vi (i : Int)] [] (z_cfg t', I3, J) Q := by
          intro I3 k3 q3 dp3 f3 R3 e03 Q3 N3
          refine b76_151 ?_
          rw [show (i : Int) + 1 = ((i + 1 : Nat) : Int) by omega]
          exact ih (i + 1) I3 k3 q3 dp3 x1 (by omega) hx f3 R3 e03 Q3 N3
        refine ⟨⟨by omega, by omega⟩, ⟨by omega, by omega⟩, fun c1 => ⟨⟨by omega, by omega⟩, ?_⟩, fun c1 => ?_⟩
        · have hg : rGl D (q1 i) := by unfold rGl; omega
          refine b76_151 (fin _ (dp1 (q1 i)) _ _ (f2.tr (rFZ.u _ 0 _)) (R2.u (by decide)).1 ?_ (zu_same _ _ _ _) (by omega) ⟨by omega, by omega⟩ (ans _ (hN.hit hlt hg)) (by omega))
          rw [zu_nk (by decide), Q2.1]
          omega
        · have hg : ¬ rGl D (q1 i) := by unfold rGl; omega
          by_cases hb : dShores D (dStart D) = 0
          · rw [if_pos hb] at hx
            refine ⟨by rw [hx]; exact ⟨by decide, by decide⟩, fun _ => ?_, fun z => absurd hx z⟩
            refine c81 (by omega) (fun d' _ => k81 (n := q1 i) (by omega) R2.1 hob (by omega) e6 hqi.2.1 Q2 (by omega) R2.2.1 R2.2.2.1 R2.2.2.2.1 R2.2.2.2.2 (fun I3 k3 q3 dp3 f3 U3 Q3 x3 hm => ?_))
            exact go151 I3 k3 q3 dp3 (f2.tr (rFZ.fq f3)) (R2.fq f3 U3) (by rw [f3.2 0 (by decide)]; exact e02) Q3 (hN.next hlt hg hb x3 hm)
          · rw [if_neg hb] at hx
            refine ⟨by rw [hx]; exact ⟨by decide, by decide⟩, fun z => by omega, fun _ => ?_⟩
            exact go151 _ k1 q1 dp1 f2 R2 e02 Q2 (hN.skip hlt hg hb)
    refine c78 (by omega) (fun d' _ => k78 (by omega) U1 hob hT (fun I2 f2 k2 R2 Q2 => ?_))
    refine toLoop I2 R2.1 (fun I3 x1 f3 U3 hx => ?_)
    have g3 := rFQ.fb f3
    refine loop 1024 0 I3 1 _ _ x1 (by omega) hx ?_ (R2.fq g3 U3) ?_ (Q2.fb f3) NV.first
    · exact ((rFZ.u I 0 _).tr (rFZ.u _ 0 _)).tr (f2.tr (rFZ.fq g3))
    · rw [g3.2 0 (by decide), k2 0 (by decide), zu_same]
  · refine toLoop _ U0 (fun I3 x1 f3 U3 hx => ?_)
    have g3 := rFQ.fb f3
    have e3 : I3 1510 = z_u I 1510 0 (-2) 1510 := f3 1510 (by decide) (by decide)
    refine fin I3 (-2) x1 0 ((rFZ.u I 0 _).tr (rFZ.fq g3)) U3 ?_ ?_ (by decide) ⟨by decide, by decide⟩ ⟨fun z => absurd z hT, fun _ => rfl⟩ (by omega)
    · rw [e3, zu_nk (by decide)]
      exact h5
    · rw [e3, zu_same]
end
