/-! ===== the reference: judges, cross ===== -/
def FC (I I' : Nat → Nat → Int) : Prop := (∀ a, ¬ a = 2612 → ¬ a = 2644 → ¬ a = 1835 → ¬ a = 3316 → ¬ a = 3348 → I' a = I a) ∧ ∀ k, ¬ k = 0 → ¬ k = 53 → ¬ k = 84 → ¬ k = 85 → I' 1835 k = I 1835 k
theorem FC.rf (I : Nat → Nat → Int) : FC I I := ⟨fun _ _ _ _ _ _ => rfl, fun _ _ _ _ _ => rfl⟩
theorem FC.tr {I I1 I2 : Nat → Nat → Int} (h : FC I I1) (h' : FC I1 I2) : FC I I2 := ⟨fun a h1 h2 h3 h4 h5 => (h'.1 a h1 h2 h3 h4 h5).trans (h.1 a h1 h2 h3 h4 h5), fun k h1 h2 h3 h4 => (h'.2 k h1 h2 h3 h4).trans (h.2 k h1 h2 h3 h4)⟩
theorem FC.fr {I I' : Nat → Nat → Int} (h : FR I I') : FC I I' := ⟨fun a h1 h2 _ _ _ => h a h1 h2, fun k _ _ _ _ => by rw [h 1835 (by decide) (by decide)]⟩
theorem FC.f {I : Nat → Nat → Int} {k : Nat} {v : Int} (h : k = 0 ∨ k = 53 ∨ k = 84 ∨ k = 85) : FC I (z_u I 1835 k v) := ⟨fun a _ _ h3 _ _ => zu_ne h3, fun q _ _ _ _ => zu_nk (by omega)⟩
theorem FC.w {I : Nat → Nat → Int} {a k : Nat} {v : Int} (h : a = 3316 ∨ a = 3348) : FC I (z_u I a k v) := ⟨fun b _ _ _ h4 h5 => zu_ne (by omega), fun q _ _ _ _ => by rw [zu_ne (by omega)]⟩
section
variable {sc : mS} {d : Nat} {t : zT} {I J : Nat → Nat → Int} {Q : zR → zW → Prop} {D : tD} {ho lo : Nat}
theorem kp1 (v : Nat) : kp (-1) v = v := by unfold kp; rw [if_pos rfl]
/-- the laws that bar at the shores -/
theorem k243a {x1 : Int} {s r : Nat} (e1 : x1 = r) (hd : 4 ≤ d) (hV : RV I D ho lo) (hs : SR s r) (hw : I 1835 52 = -1) (h : ∀ (I' : Nat → Nat → Int), FR I I' → RV I' D ho lo → Q (.inl (some (vi ((dShores D s : Nat) : Int)))) (z_cfg t, I', J)) : Go sc d mt_243 0 [vr 1835, vi x1, vi 0, vi 0, vi 0, vn, vn, vn, vn] [] (z_cfg t, I, J) Q := by
  refine k243 (s := s) (gone := 0) (g := 0) (lg := false) e1 rfl rfl rfl hd hV hs (by decide) (by decide) hw (Or.inl rfl) (fun I' f hV' => ?_)
  have e : kp (-1) (orN (dS D) (rShB D s 0 0 false)) = dShores D s := by
    rw [kp1]
    exact orN_cg (fun i _ => rShB_all D s i)
  rw [e]
  exact h I' f hV'
theorem k276 {x1 x2 x3 x4 : Int} {s r : Nat} (e1 : x1 = r) (h2 : inR x2) (h3 : inR x3) (h4 : inR x4) (hd : 6 ≤ d) (hV : RV I D (dHo D 0) (dLo D 0)) (hsr : SR s r) (hst : s < 4194304) (hw : I 1835 52 = -1)
    (h : ∀ (I' : Nat → Nat → Int), FC I I' → RV I' D (dHo D 0) (dLo D 0) → (∀ k, ¬ k = 53 → I' 1835 k = I 1835 k) → I' 3316 = I 3316 → I' 3348 = I 3348 → (jB D s x2 x3 x4 = 0 → ¬ jL D s x2.toNat x3.toNat x4.toNat = 0 → ∃ v : Nat, I' 1835 53 = v ∧ v < 4096 ∧ ¬ v = 0 ∧ ((tz v : Nat) : Int) = jW D s x2.toNat x3.toNat x4.toNat) → Q (.inl (some (vi (if ¬ jB D s x2 x3 x4 = 0 then jB D s x2 x3 x4 else jL D s x2.toNat x3.toNat x4.toNat)))) (z_cfg t, I', J)) :
    Go sc d mt_276 0 [vr 1835, vi x1, vi x2, vi x3, vi x4, vn] [] (z_cfg t, I, J) Q := by
  subst e1
  have hD := hV.2.2
  have V1 : RV (z_u I 1835 53 0) D (dHo D 0) (dLo D 0) := hV.fld (by omega)
  have fk : ∀ (I1 : Nat → Nat → Int) (v : Int), (∀ k, ¬ k = 53 → I1 1835 k = I 1835 k) → ∀ k, ¬ k = 53 → z_u I1 1835 53 v 1835 k = I 1835 k := fun I1 v hk k hk2 => by rw [zu_nk hk2]; exact hk k hk2
  refine b276_0 (c277 (by omega) (fun d' _ => k277 rfl h2 h3 h4 (by omega) V1 hsr hst (b276_14 ?_)))
  have hjr := jB_in (D := D) (s := s) (x1 := x2) (x2 := x3) (x3 := x4)
  refine ⟨⟨by omega, by omega⟩, fun cj => ?_, fun cj => ?_⟩
  · obtain ⟨b, p, S, e1, e2, e3, hb, hp, hf, hsub, hSA, hr, hm, hw', hl⟩ := jB_0 hD h4 cj
    subst e1 e2 e3
    rw [Int.toNat_natCast, Int.toNat_natCast, Int.toNat_natCast] at h
    rw [if_neg (fun z => z cj)] at h
    have h := fun I' a1 a2 a3 a4 a5 a6 => h I' a1 a2 a3 a4 a5 (fun _ => a6)
    have hB := hD.2.2.1
    have hS4 := hD.1
    have hA := dAll_lt hD
    have hL1 := dShores_l (dStart D) hD
    have hL2 := dWaters_l s b S hD
    have hL3 := dShores_l (dAfter D s b p S) hD
    refine c184 (by omega) (fun d' _ => k184 V1.1 hD (fun r0 hr0 => b276_30 ?_))
    refine c243 (by omega) (fun d' _ => k243a rfl (by omega) V1 hr0 (by rw [zu_nk (by decide : ¬ 52 = 53)]; exact hw) (fun I1 f1 hV1 => b276_36 ?_))
    have k1 : ∀ k, ¬ k = 53 → I1 1835 k = I 1835 k := fun k hk => by rw [f1 1835 (by decide) (by decide), zu_nk hk]
    have F1 : FC I I1 := (FC.f (k := 53) (by omega)).tr (FC.fr f1)
    have r1 : I1 3316 = I 3316 ∧ I1 3348 = I 3348 := ⟨by rw [f1 3316 (by decide) (by decide), zu_ne (by decide : ¬ 3316 = 1835)], by rw [f1 3348 (by decide) (by decide), zu_ne (by decide : ¬ 3348 = 1835)]⟩
    unfold jL jW at h
    by_cases c1 : dShores D (dStart D) = 0
    · rw [if_neg (c := ¬ dShores D (dStart D) = 0) (fun z => z c1), if_neg (c := ¬ dShores D (dStart D) = 0) (fun z => z c1)] at h
      rw [c1]
      refine ⟨⟨by decide, by decide⟩, fun _ => ?_, fun z => absurd rfl z⟩
      have V2 : RV (z_u I1 1835 53 ((0 : Nat) : Int)) D (dHo D 0) (dLo D 0) := hV1.fld (by omega)
      have k2 := fk I1 ((0 : Nat) : Int) k1
      refine c248 (by omega) (fun d' _ => k248 rfl (by omega) V2 hSA (by rw [k2 52 (by decide)]; exact hw) (Or.inl rfl) (fun I2 f2 hV2 => b276_56 ?_))
      have k3 : ∀ k, ¬ k = 53 → I2 1835 k = I 1835 k := fun k hk => by rw [f2 1835 (by decide) (by decide)]; exact k2 k hk
      have F2 : FC I I2 := F1.tr ((FC.f (k := 53) (by omega)).tr (FC.fr f2))
      have r2 : I2 3316 = I 3316 ∧ I2 3348 = I 3348 := ⟨by rw [f2 3316 (by decide) (by decide), zu_ne (by decide : ¬ 3316 = 1835)]; exact r1.1, by rw [f2 3348 (by decide) (by decide), zu_ne (by decide : ¬ 3348 = 1835)]; exact r1.2⟩
      have e2b : zshl 1 (b : Int) = ((2 ^ b : Nat) : Int) := by
        have := zshl_n (x := 1) (k := b) (by omega) (by have := Nat.pow_le_pow_right (n := 2) (by decide) (show b ≤ 2 by omega); omega)
        rw [Nat.one_mul] at this
        exact this
      have h2b : 2 ^ b < 4 := by
        have : b = 0 ∨ b = 1 := by omega
        rcases this with z | z <;> rw [z] <;> decide
      refine c243 (by omega) (fun d' _ => k243 (s := s) (gone := S) (g := 2 ^ b) (lg := true) rfl rfl e2b rfl (by omega) hV2 hsr (by omega) h2b (by rw [k3 52 (by decide)]; exact hw) (Or.inl rfl) (fun I3 f3 hV3 => b276_67 ?_))
      have ewa : orN (dS D) (rShB D s S (2 ^ b) true) = orN (dS D) (dWaB D s b S) := orN_cg (fun i _ => rShB_wa hb)
      have hl1 : dBars D S (dS D) 1 (dAlong D) < 4096 := by
        have h1 := dBars_l (D := D) S (dS D) 1 (dAlong D)
        have h2 : 2 ^ dL D ≤ 2 ^ 12 := Nat.pow_le_pow_right (by omega) hD.2.2.2.1
        omega
      have hl2 : orN (dS D) (dWaB D s b S) < 4096 := by
        have h1 : orN (dS D) (dWaB D s b S) < 2 ^ dL D := orN_lt (fun i _ => dBars_l _ _ _ _)
        have h2 : 2 ^ dL D ≤ 2 ^ 12 := Nat.pow_le_pow_right (by omega) hD.2.2.2.1
        omega
      have ez : zor ((kp (-1) (dBars D S (dS D) 1 (dAlong D)) : Nat) : Int) ((kp (-1) (orN (dS D) (rShB D s S (2 ^ b) true)) : Nat) : Int) = ((dWaters D s b S : Nat) : Int) := by
        rw [kp1, kp1, ewa, zor_n (by omega) (by omega)]
        rfl
      rw [ez]
      have k4 : ∀ k, ¬ k = 53 → I3 1835 k = I 1835 k := fun k hk => by rw [f3 1835 (by decide) (by decide)]; exact k3 k hk
      have F3 : FC I I3 := F2.tr (FC.fr f3)
      have r3 : I3 3316 = I 3316 ∧ I3 3348 = I 3348 := ⟨by rw [f3 3316 (by decide) (by decide)]; exact r2.1, by rw [f3 3348 (by decide) (by decide)]; exact r2.2⟩
      refine ⟨⟨by omega, by omega⟩, fun c2 => ?_, fun c2 => ?_⟩
      · have c2 : dWaters D s b S = 0 := by omega
        rw [if_neg (c := ¬ dWaters D s b S = 0) (fun z => z c2), if_neg (c := ¬ dWaters D s b S = 0) (fun z => z c2)] at h
        have V3 : RV (z_u I3 1835 53 ((dWaters D s b S : Nat) : Int)) D (dHo D 0) (dLo D 0) := hV3.fld (by omega)
        refine c249 (by omega) (fun d' _ => k249 rfl rfl rfl rfl V3.1 hD hsr (by omega) (by omega) hSA (fun r' hr' => b276_92 ?_))
        have k5 := fk I3 ((dWaters D s b S : Nat) : Int) k4
        refine c243 (by omega) (fun d' _ => k243a rfl (by omega) V3 hr' (by rw [k5 52 (by decide)]; exact hw) (fun I4 f4 hV4 => b276_98 ?_))
        have k6 : ∀ k, ¬ k = 53 → I4 1835 k = I 1835 k := fun k hk => by rw [f4 1835 (by decide) (by decide)]; exact k5 k hk
        have F4 : FC I I4 := F3.tr ((FC.f (k := 53) (by omega)).tr (FC.fr f4))
        have r4 : I4 3316 = I 3316 ∧ I4 3348 = I 3348 := ⟨by rw [f4 3316 (by decide) (by decide), zu_ne (by decide : ¬ 3316 = 1835)]; exact r3.1, by rw [f4 3348 (by decide) (by decide), zu_ne (by decide : ¬ 3348 = 1835)]; exact r3.2⟩
        have V5 : ∀ v : Int, RV (z_u I4 1835 53 v) D (dHo D 0) (dLo D 0) := fun v => hV4.fld (by omega)
        refine ⟨⟨by omega, by omega⟩, fun c3 => ?_, fun c3 => ?_⟩
        · have c3' : dShores D (dAfter D s b p S) = 0 := by omega
          rw [if_neg (c := ¬ dShores D (dAfter D s b p S) = 0) (fun z => z c3'), if_neg (c := ¬ dShores D (dAfter D s b p S) = 0) (fun z => z c3')] at h
          exact h _ (F4.tr (FC.f (by omega))) (V5 _) (fk I4 _ k6) (by rw [zu_ne (by decide : ¬ 3316 = 1835)]; exact r4.1) (by rw [zu_ne (by decide : ¬ 3348 = 1835)]; exact r4.2) (fun z => absurd rfl z)
        · have c3' : ¬ dShores D (dAfter D s b p S) = 0 := by omega
          rw [if_pos c3', if_pos c3'] at h
          exact h _ (F4.tr (FC.f (by omega))) (V5 _) (fk I4 _ k6) (by rw [zu_ne (by decide : ¬ 3316 = 1835)]; exact r4.1) (by rw [zu_ne (by decide : ¬ 3348 = 1835)]; exact r4.2) (fun _ => ⟨_, zu_same _ _ _ _, hL3, c3', rfl⟩)
      · have c2' : ¬ dWaters D s b S = 0 := by omega
        rw [if_pos c2', if_pos c2'] at h
        exact h _ (F3.tr (FC.f (by omega))) (hV3.fld (by omega)) (fk I3 _ k4) (by rw [zu_ne (by decide : ¬ 3316 = 1835)]; exact r3.1) (by rw [zu_ne (by decide : ¬ 3348 = 1835)]; exact r3.2) (fun _ => ⟨_, zu_same _ _ _ _, hL2, c2', rfl⟩)
    · rw [if_pos c1, if_pos c1] at h
      refine ⟨⟨by omega, by omega⟩, fun z => by omega, fun _ => ?_⟩
      exact h _ (F1.tr (FC.f (by omega))) (hV1.fld (by omega)) (fk I1 _ k1) (by rw [zu_ne (by decide : ¬ 3316 = 1835)]; exact r1.1) (by rw [zu_ne (by decide : ¬ 3348 = 1835)]; exact r1.2) (fun _ => ⟨_, zu_same _ _ _ _, hL1, c1, rfl⟩)
  · rw [if_pos cj] at h
    exact h _ (FC.f (by omega)) V1 (fun k hk => zu_nk hk) (zu_ne (by decide)) (zu_ne (by decide)) (fun z => absurd z cj)
theorem RV.fc {I' : Nat → Nat → Int} (h : RV I D ho lo) (f : ∀ a, ¬ a = 1835 → ¬ a = 3316 → ¬ a = 3348 → I' a = I a) (g : ∀ k, ¬ k = 0 → ¬ k = 53 → ¬ k = 84 → ¬ k = 85 → I' 1835 k = I 1835 k) : RV I' D ho lo := by
  refine ⟨h.1.fr (fun q hq => g q (by omega) (by omega) (by omega) (by omega)) (fun a ha => f a (by omega) (by omega) (by omega)), fun S p q l z1 z2 z3 z4 z5 => ?_, h.2.2⟩
  rw [f 2612 (by decide) (by decide) (by decide)]
  exact h.2.1 S p q l z1 z2 z3 z4 z5
theorem k275 {x1 x2 x3 : Int} {mk : Nat} {ps pm : Nat → Nat} {lw : Int} (h1 : inR x1) (h2 : inR x2) (h3 : inR x3) (hd : 7 ≤ d) (hV : RV I D (dHo D 0) (dLo D 0)) (hw : I 1835 52 = -1) (hP : PR I mk ps pm lw) (hO : PO D mk ps pm)
    (h : ∀ (I' : Nat → Nat → Int), FC I I' → RV I' D (dHo D 0) (dLo D 0) → I' 1835 0 = 0 → PR I' (nMk D mk (ps mk) x1 x2 x3) (nPs D mk ps x1 x2 x3) (nPm D mk (ps mk) pm x1 x2 x3) (crW D mk (ps mk) x1 x2 x3) → Q (.inl (some (vi (crA D mk (ps mk) x1 x2 x3)))) (z_cfg t, I', J)) :
    Go sc d mt_275 0 [vr 1835, vi x1, vi x2, vi x3, vn] [] (z_cfg t, I, J) Q := by
  have hD := hV.2.2
  obtain ⟨p0, p1, p2⟩ := hP
  have hmk := hO.1
  obtain ⟨s1, s2, -⟩ := hO.2.2.2 mk (Nat.le_refl _)
  generalize hI1 : z_u (z_u I 1835 0 0) 1835 85 (-1) = I1
  have f1 : ∀ a, ¬ a = 1835 → I1 a = I a := fun a ha => by rw [← hI1, zu_ne ha, zu_ne ha]
  have F1 : FC I I1 := by rw [← hI1]; exact (FC.f (k := 0) (by omega)).tr (FC.f (k := 85) (by omega))
  have g1 : ∀ k, ¬ k = 0 → ¬ k = 85 → I1 1835 k = I 1835 k := fun k a b => by rw [← hI1, zu_nk b, zu_nk a]
  have z85 : I1 1835 85 = -1 := by rw [← hI1, zu_same]
  have z0 : I1 1835 0 = 0 := by rw [← hI1, zu_nk (by decide : ¬ 0 = 85), zu_same]
  have V1 : RV I1 D (dHo D 0) (dLo D 0) := hV.fc (fun a a1 _ _ => f1 a a1) (fun k a1 _ _ a4 => g1 k a1 a4)
  have same : ∀ (I' : Nat → Nat → Int), ¬ crA D mk (ps mk) x1 x2 x3 = 0 → I' 1835 84 = mk → I' 1835 85 = crW D mk (ps mk) x1 x2 x3 → I' 3316 = I 3316 → I' 3348 = I 3348 → PR I' (nMk D mk (ps mk) x1 x2 x3) (nPs D mk ps x1 x2 x3) (nPm D mk (ps mk) pm x1 x2 x3) (crW D mk (ps mk) x1 x2 x3) := by
    intro I' hc a0 a1 a2 a3
    unfold nMk nPs nPm
    rw [if_neg hc, if_neg hc, if_neg hc]
    exact ⟨a0, a1, fun i hi => by rw [a2, a3]; exact p2 i hi⟩
  obtain ⟨⟨r, hr1, hr2⟩, hpm⟩ := p2 mk (Nat.le_refl _)
  refine b275_0 ?_
  rw [p0, hI1, Int.toNat_natCast, hr1]
  refine ⟨⟨by omega, by omega⟩, fun c => ?_, fun c => ⟨⟨by omega, by omega⟩, ?_⟩⟩
  · have hm60 : mk = 60 := by omega
    have ecA : crA D mk (ps mk) x1 x2 x3 = 9 := by unfold crA; rw [if_pos hm60]
    have ecW : crW D mk (ps mk) x1 x2 x3 = -1 := by unfold crW; rw [if_pos hm60]
    have := h I1 F1 V1 z0 (same I1 (by rw [ecA]; decide) (by rw [g1 84 (by decide) (by decide)]; exact p0) (by rw [ecW]; exact z85) (f1 3316 (by decide)) (f1 3348 (by decide)))
    rw [ecA] at this
    exact this
  · have hm60 : ¬ mk = 60 := by omega
    have ecA : crA D mk (ps mk) x1 x2 x3 = if ¬ jB D (ps mk) x1 x2 x3 = 0 then jB D (ps mk) x1 x2 x3 else jL D (ps mk) x1.toNat x2.toNat x3.toNat := by unfold crA; rw [if_neg hm60]
    have ecW : crW D mk (ps mk) x1 x2 x3 = if ¬ jB D (ps mk) x1 x2 x3 = 0 then -1 else jW D (ps mk) x1.toNat x2.toNat x3.toNat := by unfold crW; rw [if_neg hm60]
    refine c276 (by omega) (fun d' _ => k276 rfl h1 h2 h3 (by omega) V1 hr2 s1.1 (by rw [g1 52 (by decide) (by decide)]; exact hw) (fun I2 f2 V2 k2 r2a r2b hlaw => b275_38 ?_))
    have F2 := F1.tr f2
    have y84 : I2 1835 84 = mk := by rw [k2 84 (by decide), g1 84 (by decide) (by decide)]; exact p0
    have y85 : I2 1835 85 = -1 := by rw [k2 85 (by decide)]; exact z85
    have y0 : I2 1835 0 = 0 := by rw [k2 0 (by decide)]; exact z0
    have a16 : I2 3316 = I 3316 := by rw [r2a, f1 3316 (by decide)]
    have a48 : I2 3348 = I 3348 := by rw [r2b, f1 3348 (by decide)]
    rw [← ecA]
    have hcr : 0 ≤ crA D mk (ps mk) x1 x2 x3 ∧ crA D mk (ps mk) x1 x2 x3 ≤ 9 := by
      rw [ecA]
      have := jB_in (D := D) (s := ps mk) (x1 := x1) (x2 := x2) (x3 := x3)
      split
      · omega
      · unfold jL
        repeat' split
        all_goals omega
    -- the law is looked for
    have lawloop : (crA D mk (ps mk) x1 x2 x3 = 7 ∨ crA D mk (ps mk) x1 x2 x3 = 8) → Go sc d mt_275 54 [vr 1835, vi x1, vi x2, vi x3, vi (crA D mk (ps mk) x1 x2 x3)] [] (z_cfg t, I2, J) Q := by
      intro h78
      have hj0 : jB D (ps mk) x1 x2 x3 = 0 := by
        have := jB_in (D := D) (s := ps mk) (x1 := x1) (x2 := x2) (x3 := x3)
        by_cases q : jB D (ps mk) x1 x2 x3 = 0
        · exact q
        · rw [if_pos q] at ecA; omega
      rw [if_neg (fun z => z hj0)] at ecA ecW
      have hjl : ¬ jL D (ps mk) x1.toNat x2.toNat x3.toNat = 0 := by omega
      obtain ⟨v, hv1, hv2, hv3, hv4⟩ := hlaw hj0 hjl
      obtain ⟨t1, t2, t3⟩ := tz_lt hv2 hv3
      refine b275_54 ?_
      have loop : ∀ (m k : Nat) (I3 : Nat → Nat → Int), k + m = tz v → (∀ a, ¬ a = 1835 → I3 a = I2 a) → (∀ q, ¬ q = 85 → I3 1835 q = I2 1835 q) → I3 1835 85 = k → Go sc d mt_275 59 [vr 1835, vi x1, vi x2, vi x3, vi (crA D mk (ps mk) x1 x2 x3)] [] (z_cfg t, I3, J) Q := by
        intro m
        induction m with
        | zero =>
          intro k I3 hk u1 u2 u3
          refine b275_59 ?_
          rw [u2 53 (by decide), hv1, u3, zbit (by omega) (by omega)]
          have hk : k = tz v := by omega
          rw [hk, t2]
          refine ⟨fun z => absurd z (by decide), fun _ => b275_86 ⟨⟨by omega, by omega⟩, fun z => by omega, fun _ => ?_⟩⟩
          refine h I3 (F2.tr ⟨fun a _ _ a3 _ _ => u1 a a3, fun q _ _ _ q4 => u2 q q4⟩) (V2.fc (fun a a1 _ _ => u1 a a1) (fun q _ _ _ q4 => u2 q q4)) (by rw [u2 0 (by decide)]; exact y0) (same I3 (by omega) (by rw [u2 84 (by decide)]; exact y84) (by rw [u3, ecW, ← hv4, hk]) (by rw [u1 3316 (by decide)]; exact a16) (by rw [u1 3348 (by decide)]; exact a48))
        | succ m ih =>
          intro k I3 hk u1 u2 u3
          refine b275_59 ?_
          rw [u2 53 (by decide), hv1, u3, zbit (by omega) (by omega), t3 k (by omega)]
          refine ⟨fun _ => ?_, fun z => absurd rfl z⟩
          rw [show (k : Int) + 1 = ((k + 1 : Nat) : Int) by omega]
          exact ih (k + 1) _ (by omega) (fun a ha => by rw [zu_ne ha]; exact u1 a ha) (fun q hq => by rw [zu_nk hq]; exact u2 q hq) (zu_same _ _ _ _)
      exact loop (tz v) 0 _ (by omega) (fun a ha => zu_ne ha) (fun q hq => zu_nk hq) (zu_same _ _ _ _)
    refine ⟨⟨by omega, by omega⟩, fun c7 => lawloop (Or.inl c7), fun c7 => ⟨fun c8 => lawloop (Or.inr c8), fun c8 => b275_86 ?_⟩⟩
    clear hlaw lawloop
    by_cases c0 : crA D mk (ps mk) x1 x2 x3 = 0
    · have hj0 : jB D (ps mk) x1 x2 x3 = 0 := by
        by_cases q : jB D (ps mk) x1 x2 x3 = 0
        · exact q
        · rw [if_pos q] at ecA; omega
      rw [if_neg (fun z => z hj0)] at ecA ecW
      obtain ⟨b, p, S, e1, e2, e3, hb, hp, hf, hsub, hSA, hr, hm, hw', hl⟩ := jB_0 hD h3 hj0
      subst e1 e2 e3
      rw [Int.toNat_natCast, Int.toNat_natCast, Int.toNat_natCast] at ecA ecW
      have hB := hD.2.2.1
      have hS4 := hD.1
      have hmx := (dsm hD S).2.2.2
      have hjl : jL D (ps mk) b p S = 0 := by omega
      have hjw : crW D mk (ps mk) (b : Int) (p : Int) (S : Int) = -1 := by
        rw [ecW]
        unfold jL at hjl
        unfold jW
        by_cases q1 : dShores D (dStart D) = 0
        · rw [if_neg (fun z => z q1)] at hjl ⊢
          by_cases q2 : dWaters D (ps mk) b S = 0
          · rw [if_neg (fun z => z q2)] at hjl ⊢
            by_cases q3 : dShores D (dAfter D (ps mk) b p S) = 0
            · rw [if_neg (fun z => z q3)]
            · rw [if_pos q3] at hjl; exact absurd hjl (by decide)
          · rw [if_pos q2] at hjl; exact absurd hjl (by decide)
        · rw [if_pos q1] at hjl; exact absurd hjl (by decide)
      rw [y84, Int.toNat_natCast, a16, hr1, c0]
      refine ⟨⟨by decide, by decide⟩, fun _ => ⟨⟨by omega, by omega⟩, ?_⟩, fun z => absurd rfl z⟩
      refine c249 (by omega) (fun d' _ => k249 rfl rfl rfl rfl V2.1 hD hr2 (by omega) (by omega) hSA (fun r' hr' => b275_120 ?_))
      rw [y84, Int.toNat_natCast, a48, hpm, show (mk : Int) + 1 = ((mk + 1 : Nat) : Int) by omega, Int.toNat_natCast]
      refine ⟨⟨by omega, by omega⟩, ⟨by omega, by omega⟩, ?_⟩
      have V3 : RV (z_u I2 3316 (mk + 1) (r' : Int)) D (dHo D 0) (dLo D 0) := V2.fc (fun a _ a2 _ => zu_ne a2) (fun q _ _ _ _ => by rw [zu_ne (by decide : ¬ 1835 = 3316)])
      refine c255 (by omega) (fun d' _ => k255 rfl V3.1 hD hSA (b275_145 ?_))
      rw [zu_ne (by decide : ¬ 1835 = 3316), y84, Int.toNat_natCast, show (mk : Int) + 1 = ((mk + 1 : Nat) : Int) by omega]
      refine ⟨⟨by omega, by omega⟩, ?_⟩
      have := h (z_u (z_u (z_u I2 3316 (mk + 1) (r' : Int)) 3348 (mk + 1) ((pm mk : Int) + ((mx (dT D) (dMi D) S : Nat) : Int))) 1835 84 ((mk + 1 : Nat) : Int)) (F2.tr ((FC.w (by omega)).tr ((FC.w (by omega)).tr (FC.f (by omega))))) (V2.fc (fun a a1 a2 a3 => by rw [zu_ne a1, zu_ne a3, zu_ne a2]) (fun q _ _ q3 _ => by rw [zu_nk q3, zu_ne (by decide : ¬ 1835 = 3348), zu_ne (by decide : ¬ 1835 = 3316)])) (by rw [zu_nk (by decide : ¬ 0 = 84), zu_ne (by decide : ¬ 1835 = 3348), zu_ne (by decide : ¬ 1835 = 3316)]; exact y0) (by
        unfold nMk nPs nPm
        rw [if_pos c0, if_pos c0, if_pos c0, hjw]
        refine ⟨zu_same _ _ _ _, ?_, fun i hi => ?_⟩
        · rw [zu_nk (by decide : ¬ 85 = 84), zu_ne (by decide : ¬ 1835 = 3348), zu_ne (by decide : ¬ 1835 = 3316)]; exact y85
        · rw [zu_ne (by decide : ¬ 3316 = 1835), zu_ne (by decide : ¬ 3316 = 3348), zu_ne (by decide : ¬ 3348 = 1835), zu_at, zu_at, Int.toNat_natCast, Int.toNat_natCast, Int.toNat_natCast, zu_ne (by decide : ¬ 3348 = 3316)]
          by_cases q : i = mk + 1
          · rw [if_pos q, if_pos q, q, upN_at, upN_at]
            exact ⟨⟨r', rfl, hr'⟩, by omega⟩
          · rw [if_neg q, if_neg q, upN_ne q, upN_ne q, a16, a48]
            exact p2 i (by omega))
      rw [c0] at this
      exact this
    · refine ⟨⟨by omega, by omega⟩, fun z => absurd z c0, fun _ => ?_⟩
      refine h I2 F2 V2 y0 (same I2 c0 y84 ?_ a16 a48)
      rw [y85, ecW]
      by_cases q : jB D (ps mk) x1 x2 x3 = 0
      · exfalso
        rw [if_neg (fun z => z q)] at ecA
        have : jL D (ps mk) x1.toNat x2.toNat x3.toNat = 0 ∨ jL D (ps mk) x1.toNat x2.toNat x3.toNat = 7 ∨ jL D (ps mk) x1.toNat x2.toNat x3.toNat = 8 := by
          unfold jL
          repeat' split
          all_goals omega
        omega
      · rw [if_pos q]
end
