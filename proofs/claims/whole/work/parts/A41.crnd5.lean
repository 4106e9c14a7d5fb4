/-! ===== rounds, the class: addRounds, begin ===== -/
def rFQ (I I' : Nat → Nat → Int) : Prop := (∀ a, ¬ a = 884 → ¬ a = 1044 → ¬ a = 1556 → ¬ a = 1588 → ¬ a = 1510 → I' a = I a) ∧ ∀ k, ¬ k = 5 → I' 1510 k = I 1510 k
theorem rFQ.rf (I : Nat → Nat → Int) : rFQ I I := ⟨fun _ _ _ _ _ _ => rfl, fun _ _ => rfl⟩
theorem rFQ.tr {I I1 I2 : Nat → Nat → Int} (h : rFQ I I1) (h' : rFQ I1 I2) : rFQ I I2 := ⟨fun a h1 h2 h3 h4 h5 => (h'.1 a h1 h2 h3 h4 h5).trans (h.1 a h1 h2 h3 h4 h5), fun k hk => (h'.2 k hk).trans (h.2 k hk)⟩
theorem rFQ.fb {I I' : Nat → Nat → Int} (h : FB I I') : rFQ I I' := ⟨fun a h1 h2 _ _ _ => h a h1 h2, fun k _ => by rw [h 1510 (by decide) (by decide)]⟩
/-- the pairs that are through -/
def PP (D : tD) (i kk f s : Nat) : Prop := (∃ (i' j : Nat), i' < i ∧ (0 :: rLs D 0 (dAll D))[i']? = some f ∧ (0 :: rLs D 1 (dAll D))[j]? = some s) ∨ ((0 :: rLs D 0 (dAll D))[i]? = some f ∧ ∃ j : Nat, j < kk ∧ (0 :: rLs D 1 (dAll D))[j]? = some s)
def DN (D : tD) (n : Nat) (dp : Nat → Int) (i kk : Nat) : Prop := ∀ f s, PP D i kk f s → rP D n f s → ¬ dp (rNx n f s) = -1
theorem DN.mono {D : tD} {n i kk k k' : Nat} {q q' : Nat → Nat} {dp dp' : Nat → Int} (h : DN D n dp i kk) (x : XQ D n k q dp k' q' dp') : DN D n dp' i kk := fun f s hp hr => by
  have := h f s hp hr
  rw [x.2.2.1 _ this]
  exact this
theorem DN.step {D : tD} {n i kk f s : Nat} {dp : Nat → Int} (h : DN D n dp i kk) (hf : (0 :: rLs D 0 (dAll D))[i]? = some f) (hs : (0 :: rLs D 1 (dAll D))[kk]? = some s) (hr : rP D n f s → ¬ dp (rNx n f s) = -1) : DN D n dp i (kk + 1) := by
  intro f' s' hp hr'
  rcases hp with hp | ⟨h1, j, h2, h3⟩
  · exact h f' s' (Or.inl hp) hr'
  · by_cases c : j < kk
    · exact h f' s' (Or.inr ⟨h1, j, c, h3⟩) hr'
    · have : j = kk := by omega
      subst this
      rw [hf] at h1
      rw [hs] at h3
      cases h1
      cases h3
      exact hr hr'
theorem DN.row {D : tD} {n i kk : Nat} {dp : Nat → Int} (h : DN D n dp i kk) (hk : (0 :: rLs D 1 (dAll D)).length ≤ kk) : DN D n dp (i + 1) 0 := by
  intro f s hp hr
  rcases hp with ⟨i', j, h1, h2, h3⟩ | ⟨_, j, h2, _⟩
  · by_cases c : i' < i
    · exact h f s (Or.inl ⟨i', j, c, h2, h3⟩) hr
    · have : i' = i := by omega
      subst this
      have := (List.getElem?_eq_some_iff.mp h3).1
      exact h f s (Or.inr ⟨h2, j, by omega, h3⟩) hr
  · exact absurd h2 (by omega)
theorem DN.skip {D : tD} {n i f : Nat} {dp : Nat → Int} (h : DN D n dp i 0) (hf : (0 :: rLs D 0 (dAll D))[i]? = some f) (hn : ¬ ndiff f (rch D n 0) = 0) : DN D n dp (i + 1) 0 := by
  intro f' s hp hr
  rcases hp with ⟨i', j, h1, h2, h3⟩ | ⟨_, j, h2, _⟩
  · by_cases c : i' < i
    · exact h f' s (Or.inl ⟨i', j, c, h2, h3⟩) hr
    · have : i' = i := by omega
      subst this
      rw [hf] at h2
      cases h2
      exact absurd hr.1 hn
  · exact absurd h2 (by omega)
theorem rch_lt {D : tD} (hD : dOk D) (n b : Nat) : rch D n b < 256 := by
  have hA := dAll_lt hD
  have h1 := ndiff_le (dAll D) n
  have h2 : dAll D &&& n ≤ dAll D := Nat.and_le_left
  unfold rch
  split
  · split <;> omega
  · omega
theorem LD.at {I : Nat → Nat → Int} {bl : Bool} {l : List Nat} {i S : Nat} (h : LD I bl l) (hi : (0 :: l)[i]? = some S) : I (z_ld bl) i = (S : Int) := by
  cases i with
  | zero =>
    have hi : some 0 = some S := hi
    cases hi
    exact h.1
  | succ j => exact h.2 j S hi
theorem rLd_of {D : tD} {b i S : Nat} (h : (0 :: rLs D b (dAll D))[i]? = some S) : rLd D b S := by
  have := List.mem_of_getElem? h
  rcases List.mem_cons.1 this with z | z
  · exact Or.inl z
  · exact Or.inr z
theorem rLd_to {D : tD} {b S : Nat} (h : rLd D b S) : ∃ i : Nat, (0 :: rLs D b (dAll D))[i]? = some S := by
  refine List.mem_iff_getElem?.1 (List.mem_cons.2 ?_)
  exact h
section
variable {sc : mS} {d : Nat} {t : zT} {I J : Nat → Nat → Int} {Q : zR → zW → Prop} {D : tD}
theorem k81 {n k : Nat} {q : Nat → Nat} {dp : Nat → Int} (hd : 5 ≤ d) (hU : RU t I D) (hob : t_ob t = t_rb t) (hS : 2 ≤ dS D) (hn : I 1510 6 = n) (hn2 : n < 1024) (hQ : QD I k q dp) (hdn : 0 ≤ dp n ∧ dp n < 1024) (h9 : I 1510 9 = (((rLs D 0 (dAll D)).length + 1 : Nat) : Int)) (h10 : I 1510 10 = (((rLs D 1 (dAll D)).length + 1 : Nat) : Int)) (hL0 : LD I false (rLs D 0 (dAll D))) (hL1 : LD I true (rLs D 1 (dAll D)))
    (h : ∀ (I' : Nat → Nat → Int) (k' : Nat) (q' : Nat → Nat) (dp' : Nat → Int), rFQ I I' → RU t I' D → QD I' k' q' dp' → XQ D n k q dp k' q' dp' → (∀ m, rE D n m → ¬ dp' m = -1) → Q (.inl none) (z_cfg t, I', J)) : Go sc d mt_81 0 [vr 1510, vn, vn, vn, vn, vn, vn] [] (z_cfg t, I, J) Q := by
  have hD := hU.2.2.2
  have hA := dAll_lt hD
  have hl0 := rLs_len D 0 (dAll D)
  have hl1 := rLs_len D 1 (dAll D)
  have r0 := rch_lt hD n 0
  have r1 := rch_lt hD n 1
  have cd : CD (t_ob t) I D := by rw [hob]; exact hU.1
  have len0 : (0 :: rLs D 0 (dAll D)).length = (rLs D 0 (dAll D)).length + 1 := rfl
  have len1 : (0 :: rLs D 1 (dAll D)).length = (rLs D 1 (dAll D)).length + 1 := rfl
  have inner : ∀ (m kk i f : Nat) (I1 : Nat → Nat → Int) (k1 : Nat) (q1 : Nat → Nat) (dp1 : Nat → Int) (v6 : zV), kk + m = (rLs D 1 (dAll D)).length + 1 → (0 :: rLs D 0 (dAll D))[i]? = some f → ndiff f (rch D n 0) = 0 → rFQ I I1 → RU t I1 D → QD I1 k1 q1 dp1 → XQ D n k q dp k1 q1 dp1 → DN D n dp1 i kk →
      (∀ (I2 : Nat → Nat → Int) (k2 : Nat) (q2 : Nat → Nat) (dp2 : Nat → Int) (v5 v6 : zV), rFQ I I2 → RU t I2 D → QD I2 k2 q2 dp2 → XQ D n k q dp k2 q2 dp2 → DN D n dp2 (i + 1) 0 → Go sc d mt_81 106 [vr 1510, vi ((rch D n 0 : Nat) : Int), vi ((rch D n 1 : Nat) : Int), vi (i : Int), vi (f : Int), v5, v6] [] (z_cfg t, I2, J) Q) →
      Go sc d mt_81 49 [vr 1510, vi ((rch D n 0 : Nat) : Int), vi ((rch D n 1 : Nat) : Int), vi (i : Int), vi (f : Int), vi (kk : Int), v6] [] (z_cfg t, I1, J) Q := by
    intro m
    induction m with
    | zero =>
      intro kk i f I1 k1 q1 dp1 v6 hk hf hfr f1 hU1 hQ1 x1 dn hnext
      refine b81_49 ?_
      rw [f1.2 10 (by decide), h10]
      exact ⟨⟨by omega, by omega⟩, ⟨by omega, by omega⟩, fun z => by omega, fun _ => hnext I1 k1 q1 dp1 _ _ f1 hU1 hQ1 x1 (dn.row (by omega))⟩
    | succ m ih =>
      intro kk i f I1 k1 q1 dp1 v6 hk hf hfr f1 hU1 hQ1 x1 dn hnext
      obtain ⟨s, hs⟩ : ∃ s, (0 :: rLs D 1 (dAll D))[kk]? = some s := ⟨_, List.getElem?_eq_getElem (by omega)⟩
      have es : I1 1652 kk = (s : Int) := by
        rw [f1.1 1652 (by decide) (by decide) (by decide) (by decide) (by decide)]
        exact hL1.at hs
      have hfl := rLd_le (rLd_of hf)
      have hsl := rLd_le (rLd_of hs)
      have next : ∀ (I2 : Nat → Nat → Int) (k2 : Nat) (q2 : Nat → Nat) (dp2 : Nat → Int), rFQ I I2 → RU t I2 D → QD I2 k2 q2 dp2 → XQ D n k q dp k2 q2 dp2 → DN D n dp2 i (kk + 1) → Go sc d mt_81 100 [vr 1510, vi ((rch D n 0 : Nat) : Int), vi ((rch D n 1 : Nat) : Int), vi (i : Int), vi (f : Int), vi (kk : Int), vi (s : Int)] [] (z_cfg t, I2, J) Q := by
        intro I2 k2 q2 dp2 f2 hU2 hQ2 x2 dn2
        refine b81_100 ?_
        rw [show (kk : Int) + 1 = ((kk + 1 : Nat) : Int) by omega]
        exact ih (kk + 1) i f I2 k2 q2 dp2 _ (by omega) hf hfr f2 hU2 hQ2 x2 dn2 hnext
      have en : dp1 n = dp n := x1.2.2.1 n (by omega)
      refine b81_49 ?_
      rw [f1.2 10 (by decide), h10, Int.toNat_natCast, es, zandn_n (by omega) (by omega), zand_n (by omega) (by omega)]
      refine ⟨⟨by omega, by omega⟩, ⟨by omega, by omega⟩, fun _ => ⟨fun _ => ⟨⟨by omega, by omega⟩, fun c1 => ⟨fun c2 => ?_, fun c2 => ?_⟩, fun c1 => ?_⟩, fun z => by omega⟩, fun z => by omega⟩
      · refine c83 (by omega) (fun d' _ => k83 (f := f) (s := s) (n := n) (k := k1) (q := q1) (dp := dp1) rfl rfl (by omega) hU1 hob hS hfl hsl (by rw [f1.2 6 (by decide)]; exact hn) hn2 hQ1 (by rw [en]; exact hdn) (fun c3 c4 I2 I3 f2 hU2 g1 g2 g3 => ?_) (fun c3 I2 f2 hU2 => ?_))
        · have hE : rE D n (rNx n f s) := ⟨f, s, rLd_of hf, rLd_of hs, ⟨hfr, by omega, by omega, c3⟩, rfl⟩
          have x2 : XQ D n k1 q1 dp1 (k1 + 1) (upN q1 k1 (rNx n f s)) (upI dp1 (rNx n f s) (dp1 n + 1)) := XQ.one c4 hE (by omega) (fun j hj => (hQ1.2.1 j hj).2.2)
          refine next I3 _ _ _ ?_ (hU2.up rfl (fun a ha => g1 a (by omega) (by omega) (by omega))) g3 (x1.tr x2 hdn.1) ((dn.mono x2).step hf hs (fun _ => by unfold upI; rw [if_pos rfl]; omega))
          refine f1.tr ((rFQ.fb f2).tr ⟨fun a _ _ a3 a4 a5 => g1 a a3 a4 a5, g2⟩)
        · refine next I2 k1 q1 dp1 (f1.tr (rFQ.fb f2)) hU2 (hQ1.fb f2) x1 (dn.step hf hs (fun hr => ?_))
          rcases c3 with c3 | c3
          · rw [hr.2.2.2] at c3; cases c3
          · exact c3
      · exact next I1 k1 q1 dp1 f1 hU1 hQ1 x1 (dn.step hf hs (fun hr => absurd (by rw [hr.2.2.1]; rfl) c2))
      · exact next I1 k1 q1 dp1 f1 hU1 hQ1 x1 (dn.step hf hs (fun hr => absurd (by rw [hr.2.1]; rfl) c1))
  have outer : ∀ (m i : Nat) (I1 : Nat → Nat → Int) (k1 : Nat) (q1 : Nat → Nat) (dp1 : Nat → Int) (v4 v5 v6 : zV), i + m = (rLs D 0 (dAll D)).length + 1 → rFQ I I1 → RU t I1 D → QD I1 k1 q1 dp1 → XQ D n k q dp k1 q1 dp1 → DN D n dp1 i 0 → Go sc d mt_81 14 [vr 1510, vi ((rch D n 0 : Nat) : Int), vi ((rch D n 1 : Nat) : Int), vi (i : Int), v4, v5, v6] [] (z_cfg t, I1, J) Q := by
    intro m
    induction m with
    | zero =>
      intro i I1 k1 q1 dp1 v4 v5 v6 hi f1 hU1 hQ1 x1 dn
      refine b81_14 ?_
      rw [f1.2 9 (by decide), h9]
      refine ⟨⟨by omega, by omega⟩, ⟨by omega, by omega⟩, fun z => by omega, fun _ => h I1 k1 q1 dp1 f1 hU1 hQ1 x1 (fun m' hE => ?_)⟩
      obtain ⟨f, s, hf, hs, hr, e⟩ := hE
      obtain ⟨i', hi'⟩ := rLd_to hf
      obtain ⟨j', hj'⟩ := rLd_to hs
      have := (List.getElem?_eq_some_iff.mp hi').1
      rw [e]
      exact dn f s (Or.inl ⟨i', j', by omega, hi', hj'⟩) hr
    | succ m ih =>
      intro i I1 k1 q1 dp1 v4 v5 v6 hi f1 hU1 hQ1 x1 dn
      obtain ⟨f, hf⟩ : ∃ f, (0 :: rLs D 0 (dAll D))[i]? = some f := ⟨_, List.getElem?_eq_getElem (by omega)⟩
      have ef : I1 1620 i = (f : Int) := by
        rw [f1.1 1620 (by decide) (by decide) (by decide) (by decide) (by decide)]
        exact hL0.at hf
      have hfl := rLd_le (rLd_of hf)
      have next : ∀ (I2 : Nat → Nat → Int) (k2 : Nat) (q2 : Nat → Nat) (dp2 : Nat → Int) (v5 v6 : zV), rFQ I I2 → RU t I2 D → QD I2 k2 q2 dp2 → XQ D n k q dp k2 q2 dp2 → DN D n dp2 (i + 1) 0 → Go sc d mt_81 106 [vr 1510, vi ((rch D n 0 : Nat) : Int), vi ((rch D n 1 : Nat) : Int), vi (i : Int), vi (f : Int), v5, v6] [] (z_cfg t, I2, J) Q := by
        intro I2 k2 q2 dp2 v5 v6 f2 hU2 hQ2 x2 dn2
        refine b81_106 ?_
        rw [show (i : Int) + 1 = ((i + 1 : Nat) : Int) by omega]
        exact ih (i + 1) I2 k2 q2 dp2 _ _ _ (by omega) f2 hU2 hQ2 x2 dn2
      refine b81_14 ?_
      rw [f1.2 9 (by decide), h9, Int.toNat_natCast, ef, zandn_n (by omega) (by omega)]
      refine ⟨⟨by omega, by omega⟩, ⟨by omega, by omega⟩, fun _ => ⟨fun _ => ⟨⟨by omega, by omega⟩, fun c1 => ?_, fun c1 => ?_⟩, fun z => by omega⟩, fun z => by omega⟩
      · exact inner ((rLs D 1 (dAll D)).length + 1) 0 i f I1 k1 q1 dp1 _ (by omega) hf (by omega) f1 hU1 hQ1 x1 dn next
      · exact next I1 k1 q1 dp1 _ _ f1 hU1 hQ1 x1 (dn.skip hf (by omega))
  refine b81_0 (c82 (by omega) (fun d' _ => k82 (b := 0) rfl (by decide) (by omega) cd hD hn hn2 (b81_5 ?_)))
  refine c82 (by omega) (fun d' _ => k82 (b := 1) rfl (by decide) (by omega) cd hD hn hn2 (b81_11 ?_))
  exact outer ((rLs D 0 (dAll D)).length + 1) 0 I k q dp _ _ _ (by omega) (rFQ.rf I) hU hQ XQ.rf (fun f s hp _ => by
    rcases hp with ⟨i', j, h1, _⟩ | ⟨_, j, h1, _⟩
    · exact absurd h1 (by omega)
    · exact absurd h1 (by omega))
end
