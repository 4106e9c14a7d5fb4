/-! ===== rounds, the class: begin, fewestRounds ===== -/
theorem fN_1556 (t : zT) : z_fN (z_tab t ++ t_l t) 1556 = some 1024 := rfl
def rFZ (I I' : Nat → Nat → Int) : Prop := ∀ a, ¬ a = 884 → ¬ a = 1044 → ¬ a = 1556 → ¬ a = 1588 → ¬ a = 1510 → ¬ a = 1620 → ¬ a = 1652 → I' a = I a
theorem rFZ.tr {I I1 I2 : Nat → Nat → Int} (h : rFZ I I1) (h' : rFZ I1 I2) : rFZ I I2 := fun a h1 h2 h3 h4 h5 h6 h7 => (h' a h1 h2 h3 h4 h5 h6 h7).trans (h a h1 h2 h3 h4 h5 h6 h7)
theorem rFZ.rf (I : Nat → Nat → Int) : rFZ I I := fun _ _ _ _ _ _ _ _ => rfl
theorem rFZ.u (I : Nat → Nat → Int) (k : Nat) (v : Int) : rFZ I (z_u I 1510 k v) := fun a _ _ _ _ h5 _ _ => zu_ne h5
theorem rFZ.fq {I I' : Nat → Nat → Int} (h : rFQ I I') : rFZ I I' := fun a h1 h2 h3 h4 h5 _ _ => h.1 a h1 h2 h3 h4 h5
/-- the loads are listed -/
def RQS (t : zT) (D : tD) (I : Nat → Nat → Int) : Prop := RU t I D ∧ I 1510 9 = (((rLs D 0 (dAll D)).length + 1 : Nat) : Int) ∧ I 1510 10 = (((rLs D 1 (dAll D)).length + 1 : Nat) : Int) ∧ LD I false (rLs D 0 (dAll D)) ∧ LD I true (rLs D 1 (dAll D))
theorem LD.fr {I I' : Nat → Nat → Int} {bl : Bool} {l : List Nat} (h : LD I bl l) (e : I' (z_ld bl) = I (z_ld bl)) : LD I' bl l := by
  unfold LD
  rw [e]
  exact h
theorem RQS.fq {t : zT} {D : tD} {I I' : Nat → Nat → Int} (h : RQS t D I) (f : rFQ I I') (hU : RU t I' D) : RQS t D I' :=
  ⟨hU, by rw [f.2 9 (by decide)]; exact h.2.1, by rw [f.2 10 (by decide)]; exact h.2.2.1, h.2.2.2.1.fr (f.1 1620 (by decide) (by decide) (by decide) (by decide) (by decide)), h.2.2.2.2.fr (f.1 1652 (by decide) (by decide) (by decide) (by decide) (by decide))⟩
theorem RQS.u {t : zT} {D : tD} {I : Nat → Nat → Int} {k : Nat} {v : Int} (h : RQS t D I) (hk : k < 9) : RQS t D (z_u I 1510 k v) :=
  ⟨h.1.up rfl (fun a ha => zu_ne (by omega)), by rw [zu_nk (by omega)]; exact h.2.1, by rw [zu_nk (by omega)]; exact h.2.2.1, h.2.2.2.1.fr (zu_ne (by decide)), h.2.2.2.2.fr (zu_ne (by decide))⟩
/-- between two steps of the search -/
def NV (D : tD) (i k : Nat) (q : Nat → Nat) (dp : Nat → Int) : Prop := dp (rN0 D) = 0 ∧ (∀ j, j < k → ∃ e : Nat, dp (q j) = e ∧ rR D e (q j) ∧ e ≤ j) ∧ (∀ a b, a ≤ b → b < k → dp (q a) ≤ dp (q b)) ∧ (∀ a b, a < k → i ≤ b → b < k → dp (q a) ≤ dp (q b) + 1) ∧ (∀ s, ¬ dp s = -1 → ∃ j, j < k ∧ q j = s) ∧ (∀ j, j < i → ¬ rGl D (q j) ∧ (dShores D (dStart D) = 0 → ∀ m, rE D (q j) m → ¬ dp m = -1 ∧ dp m ≤ dp (q j) + 1)) ∧ i ≤ k
theorem NV.pos {D : tD} {i k : Nat} {q : Nat → Nat} {dp : Nat → Int} (h : NV D i k q dp) {s : Nat} (hs : ¬ dp s = -1) : 0 ≤ dp s ∧ dp s < k := by
  obtain ⟨j, j1, j2⟩ := h.2.2.2.2.1 s hs
  obtain ⟨e, e1, _, e3⟩ := h.2.1 j j1
  rw [j2] at e1
  omega
theorem NV.bf {D : tD} {i k : Nat} {q : Nat → Nat} {dp : Nat → Int} (h : NV D i k q dp) {c : Int} (hc : ∀ j, j < k → dp (q j) < c → j < i) : rBF D dp c := by
  refine ⟨h.1, fun n hn => ?_, fun n h1 h2 => ?_⟩
  · obtain ⟨j, j1, j2⟩ := h.2.2.2.2.1 n (by omega)
    obtain ⟨e, e1, e2, _⟩ := h.2.1 j j1
    rw [j2] at e1 e2
    exact ⟨e, e1, e2⟩
  · obtain ⟨j, j1, j2⟩ := h.2.2.2.2.1 n (by omega)
    have := h.2.2.2.2.2.1 j (hc j j1 (by rw [j2]; exact h2))
    rw [j2] at this
    refine ⟨this.1, fun m h0 hm => ?_⟩
    have g := this.2 h0 m hm
    exact ⟨(h.pos g.1).1, g.2⟩
theorem NV.hit {D : tD} {i k : Nat} {q : Nat → Nat} {dp : Nat → Int} (h : NV D i k q dp) (hi : i < k) (hg : rGl D (q i)) : rA D (dp (q i)) := by
  have b : rBF D dp (dp (q i)) := h.bf (fun j hj hlt => by
    by_cases c : j < i
    · exact c
    · have := h.2.2.1 i j (by omega) hj
      omega)
  obtain ⟨e, e1, _, _⟩ := h.2.1 i hi
  exact b.hit (by omega) rfl hg
theorem NV.fin {D : tD} {k : Nat} {q : Nat → Nat} {dp : Nat → Int} (h : NV D k k q dp) : rA D (-1) := by
  have b : rBF D dp ((k : Int) + 1) := h.bf (fun j hj _ => hj)
  refine b.none (fun n => ?_)
  by_cases c : dp n = -1
  · omega
  · have := h.pos c
    omega
theorem NV.skip {D : tD} {i k : Nat} {q : Nat → Nat} {dp : Nat → Int} (h : NV D i k q dp) (hi : i < k) (hg : ¬ rGl D (q i)) (hb : ¬ dShores D (dStart D) = 0) : NV D (i + 1) k q dp := by
  obtain ⟨a1, a2, a3, a4, a5, a6, a7⟩ := h
  refine ⟨a1, a2, a3, fun a b h1 h2 h3 => a4 a b h1 (by omega) h3, a5, fun j hj => ?_, by omega⟩
  by_cases c : j < i
  · exact a6 j c
  · have : j = i := by omega
    subst this
    exact ⟨hg, fun z => absurd z hb⟩
theorem NV.next {D : tD} {i k k' : Nat} {q q' : Nat → Nat} {dp dp' : Nat → Int} (h : NV D i k q dp) (hi : i < k) (hg : ¬ rGl D (q i)) (h0 : dShores D (dStart D) = 0) (x : XQ D (q i) k q dp k' q' dp') (hm : ∀ m, rE D (q i) m → ¬ dp' m = -1) : NV D (i + 1) k' q' dp' := by
  obtain ⟨a1, a2, a3, a4, a5, a6, a7⟩ := h
  obtain ⟨x1, x2, x3, x4, x5⟩ := x
  obtain ⟨ei, ei1, ei2, ei3⟩ := a2 i hi
  have old : ∀ j, j < k → q' j = q j ∧ dp' (q' j) = dp (q j) := fun j hj => by
    obtain ⟨e, e1, _, _⟩ := a2 j hj
    rw [x2 j hj]
    exact ⟨rfl, x3 _ (by omega)⟩
  refine ⟨by rw [x3 _ (by omega)]; exact a1, fun j hj => ?_, fun a b h1 h2 => ?_, fun a b h1 h2 h3 => ?_, fun s hs => ?_, fun j hj => ?_, by omega⟩
  · by_cases c : j < k
    · obtain ⟨e, e1, e2, e3⟩ := a2 j c
      rw [(old j c).2, (old j c).1]
      exact ⟨e, e1, e2, e3⟩
    · have := x4 j (by omega) hj
      exact ⟨ei + 1, by rw [this.2.1, ei1]; omega, ⟨h0, q i, ei2, this.2.2⟩, by omega⟩
  · by_cases c1 : a < k <;> by_cases c2 : b < k
    · rw [(old a c1).2, (old b c2).2]
      exact a3 a b h1 c2
    · rw [(old a c1).2, (x4 b (by omega) h2).2.1]
      exact a4 a i c1 (Nat.le_refl _) hi
    · omega
    · rw [(x4 a (by omega) (by omega)).2.1, (x4 b (by omega) h2).2.1]
      exact Int.le_refl _
  · by_cases c1 : a < k <;> by_cases c2 : b < k
    · rw [(old a c1).2, (old b c2).2]
      exact a4 a b c1 (by omega) c2
    · have := a4 a i c1 (Nat.le_refl _) hi
      rw [(old a c1).2, (x4 b (by omega) h3).2.1]
      omega
    · have := a3 i b (by omega) c2
      rw [(x4 a (by omega) h1).2.1, (old b c2).2]
      omega
    · rw [(x4 a (by omega) h1).2.1, (x4 b (by omega) h3).2.1]
      omega
  · by_cases c : dp s = -1
    · obtain ⟨j, _, j2, j3⟩ := x5 s hs c
      exact ⟨j, j2, j3⟩
    · obtain ⟨j, j1, j2⟩ := a5 s c
      exact ⟨j, by omega, by rw [(old j j1).1]; exact j2⟩
  · by_cases c : j < i
    · have g := a6 j c
      have o := old j (by omega)
      rw [o.2, o.1]
      refine ⟨g.1, fun z m hE => ?_⟩
      have := g.2 z m hE
      rw [x3 m this.1]
      exact this
    · have : j = i := by omega
      subst this
      have o := old j hi
      rw [o.2, o.1]
      refine ⟨hg, fun _ m hE => ⟨hm m hE, ?_⟩⟩
      by_cases z : dp m = -1
      · obtain ⟨jj, j1, j2, j3⟩ := x5 m (hm m hE) z
        have := (x4 jj j1 j2).2.1
        rw [j3] at this
        rw [this]
        exact Int.le_refl _
      · rw [x3 m z]
        obtain ⟨jj, j1, j2⟩ := a5 m z
        have := a4 jj j j1 (Nat.le_refl _) hi
        rw [j2] at this
        exact this
theorem rN0_v : ∀ a : Nat, a < 2 → ∀ b : Nat, b < 2 → zor (zshl (a : Int) 8) (zshl (b : Int) 9) = ((a * 256 + b * 512 : Nat) : Int) := by decide +kernel
section
variable {sc : mS} {d : Nat} {t : zT} {I J : Nat → Nat → Int} {Q : zR → zW → Prop} {D : tD}
theorem k78 (hd : 4 ≤ d) (hU : RU t I D) (hob : t_ob t = t_rb t) (hT : rTold D)
    (h : ∀ (I' : Nat → Nat → Int), rFZ I I' → (∀ k, k < 5 → I' 1510 k = I 1510 k) → RQS t D I' → QD I' 1 (upN (fun _ => 0) 0 (rN0 D)) (upI (fun _ => -1) (rN0 D) 0) → Q (.inl none) (z_cfg t, I', J)) : Go sc d mt_78 0 [vr 1510] [] (z_cfg t, I, J) Q := by
  have hD := hU.2.2.2
  have hB : dB D = 2 := hT.2.1
  have hS : dS D = 2 := hT.1
  obtain ⟨o1, o2, o3⟩ := hD.2.2.2.2.2.2.1 0 (by omega)
  obtain ⟨p1, p2, p3⟩ := hD.2.2.2.2.2.2.1 1 (by omega)
  have hn0 : rN0 D < 1024 := by unfold rN0; omega
  refine b78_0 (k11 (a := 1555) (n := 1024) (by omega) (by decide) (fN_1556 t) (by omega) (fun I1 m1 m2 => b78_8 ?_))
  have U1 : RU t (z_u I1 1510 5 0) D := hU.up rfl (fun a ha => by rw [zu_ne (by omega)]; exact m2 a (by omega))
  refine c79 (bl := false) (by omega) (fun d' _ => k79 (b := 0) (bl := false) rfl (by omega) U1 hob (by omega) (by omega) (by omega) (fun I2 f2 hU2 hL2 => b78_23 ?_))
  have U2 : RU t (z_u I2 1510 9 (((rLs D 0 (dAll D)).length + 1 : Nat) : Int)) D := hU2.up rfl (fun a ha => zu_ne (by omega))
  refine c79 (bl := true) (by omega) (fun d' _ => k79 (b := 1) (bl := true) rfl (by omega) U2 hob (by omega) (by omega) (by omega) (fun I3 f3 hU3 hL3 => b78_36 ?_))
  have f2 : ∀ a, ¬ a = 884 → ¬ a = 1044 → ¬ a = 1620 → I2 a = z_u I1 1510 5 0 a := f2
  have f3 : ∀ a, ¬ a = 884 → ¬ a = 1044 → ¬ a = 1652 → I3 a = z_u I2 1510 9 (((rLs D 0 (dAll D)).length + 1 : Nat) : Int) a := f3
  have cd : CD (t_ob t) I3 D := by rw [hob]; exact hU3.1
  rw [(cd.2.2.2.2.2.2.1 0 (by omega)).2.2, (cd.2.2.2.2.2.2.1 1 (by omega)).2.2, rN0_v _ (by omega) _ (by omega)]
  have e5 : z_u I3 1510 10 (((rLs D 1 (dAll D)).length + 1 : Nat) : Int) 1510 5 = 0 := by
    rw [zu_nk (by decide), f3 1510 (by decide) (by decide) (by decide), zu_nk (by decide), f2 1510 (by decide) (by decide) (by decide), zu_same]
  have e1556 : z_u I3 1510 10 (((rLs D 1 (dAll D)).length + 1 : Nat) : Int) 1556 = I1 1556 := by
    rw [zu_ne (by decide), f3 1556 (by decide) (by decide) (by decide), zu_ne (by decide), f2 1556 (by decide) (by decide) (by decide), zu_ne (by decide)]
  have Q0 : QD (z_u I3 1510 10 (((rLs D 1 (dAll D)).length + 1 : Nat) : Int)) 0 (fun _ => 0) (fun _ => -1) := by
    refine ⟨e5, fun i hi => absurd hi (by omega), fun s hs => ?_, fun i j hi => absurd hi (by omega)⟩
    rw [e1556, m1 s hs]
    exact (by decide : (-1 : Int) = -1 ∧ (-1 : Int) ≤ -1 ∧ (-1 : Int) ≤ 1024)
  refine c80 (by omega) (fun d' _ => k80 (s := rN0 D) rfl (by omega) hn0 Q0 (fun _ I4 g1 g2 g3 => b78_69 ?_) (fun z => absurd rfl z))
  have fk : ∀ k, ¬ k = 5 → ¬ k = 10 → ¬ k = 9 → I4 1510 k = I 1510 k := fun k k1 k2 k3 => by
    rw [g2 k k1, zu_nk k2, f3 1510 (by decide) (by decide) (by decide), zu_nk k3, f2 1510 (by decide) (by decide) (by decide), zu_nk k1, m2 1510 (by decide)]
  refine h I4 (fun a a1 a2 a3 a4 a5 a6 a7 => ?_) (fun k hk => fk k (by omega) (by omega) (by omega)) ⟨hU3.up rfl (fun a ha => by rw [g1 a (by omega) (by omega) (by omega), zu_ne (by omega)]), ?_, ?_, ?_, ?_⟩ g3
  · rw [g1 a a3 a4 a5, zu_ne a5, f3 a a1 a2 a7, zu_ne a5, f2 a a1 a2 a6, zu_ne a5]
    exact m2 a a3
  · rw [g2 9 (by decide), zu_nk (by decide), f3 1510 (by decide) (by decide) (by decide), zu_same]
  · rw [g2 10 (by decide), zu_same]
  · refine hL2.fr ?_
    show I4 1620 = I2 1620
    rw [g1 1620 (by decide) (by decide) (by decide), zu_ne (by decide), f3 1620 (by decide) (by decide) (by decide), zu_ne (by decide)]
  · refine hL3.fr ?_
    show I4 1652 = I3 1652
    rw [g1 1652 (by decide) (by decide) (by decide), zu_ne (by decide)]
end
