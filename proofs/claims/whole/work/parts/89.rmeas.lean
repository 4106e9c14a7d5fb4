/-! ===== the reference: measures ===== -/
theorem lv_n {D : tD} {g : gS} {n j : Nat} : lv D g (n + 1) j = (n : Int) ↔ lv D g n j = (n : Int) := by
  have e : lv D g (n + 1) j = if lv D g n j = -1 ∧ anyE g j (fun j => decide (lv D g n j = n)) = true then ((n + 1 : Nat) : Int) else lv D g n j := rfl
  rw [e]
  split
  · rename_i c
    omega
  · exact Iff.rfl
section
variable {sc : mS} {d : Nat} {t : zT} {I J : Nat → Nat → Int} {Q : zR → zW → Prop} {D : tD} {ho lo : Nat}
/-- the crossings of one state -/
theorem k250edges {g : gS} {n k : Nat} {x1 : Int} (hk : k < gN g) (hN : gN g ≤ 2000) (hM : gM g ≤ 40000) (hn : n ≤ 2001) (hF : gF g (k + 1) ≤ gM g) (hT : ∀ e, e < gM g → (gE g e).2.2.2 < gN g) (h27 : I 2708 (k + 1) = gF g (k + 1)) (h29 : ∀ e, e < gM g → I 2932 e = ((gE g e).2.2.2 : Nat)) (hR : ∀ j, j < gN g → (I 2772 j = lv D g (n + 1) j ∨ I 2772 j = lv D g n j))
    (h : ∀ (v : Bool) (x5 : Int), v = anyE g k (fun j => decide (lv D g n j = n)) → Go sc d mt_250 152 [vr 1835, vi x1, vi ((n + 1 : Nat) : Int), vi (k : Int), vi ((v.toNat : Nat) : Int), vi x5] [] (z_cfg t, I, J) Q) :
    ∀ (m e : Nat), e + m = gF g (k + 1) → anyE g k (fun j => decide (lv D g n j = n)) = (List.range' e m).any (fun e => decide (lv D g n (gE g e).2.2.2 = n)) → Go sc d mt_250 103 [vr 1835, vi x1, vi ((n + 1 : Nat) : Int), vi (k : Int), vi 0, vi (e : Int)] [] (z_cfg t, I, J) Q := by
  intro m
  induction m with
  | zero =>
    intro e he ha
    refine b250_103 ?_
    rw [show ((k : Int) + 1).toNat = k + 1 by omega, h27]
    exact ⟨⟨by omega, by omega⟩, ⟨by omega, by omega⟩, ⟨by omega, by omega⟩, fun c => by omega, fun _ => h false _ ha.symm⟩
  | succ m ih =>
    intro e he ha
    have hj := hT e (by omega)
    refine b250_103 ?_
    rw [show ((k : Int) + 1).toNat = k + 1 by omega, h27, Int.toNat_natCast, h29 e (by omega), Int.toNat_natCast]
    have hin1 := lv_in (D := D) (g := g) (n + 1) (gE g e).2.2.2
    have hin0 := lv_in (D := D) (g := g) n (gE g e).2.2.2
    have hv : I 2772 (gE g e).2.2.2 = ((n + 1 : Nat) : Int) - 1 ↔ lv D g n (gE g e).2.2.2 = (n : Int) := by
      rw [show ((n + 1 : Nat) : Int) - 1 = (n : Int) by omega]
      rcases hR _ hj with q | q
      · rw [q]; exact lv_n
      · rw [q]
    have hb : inR (I 2772 (gE g e).2.2.2) := by
      rcases hR _ hj with q | q <;> rw [q] <;> exact ⟨by omega, by omega⟩
    rw [rng_cons, List.any_cons] at ha
    refine ⟨⟨by omega, by omega⟩, ⟨by omega, by omega⟩, ⟨by omega, by omega⟩, fun _ => ⟨⟨by decide, by decide⟩, fun _ => ⟨⟨by omega, by omega⟩, ⟨by omega, by omega⟩, hb, ⟨by omega, by omega⟩, fun c => ?_, fun c => ?_⟩, fun c => absurd rfl c⟩, fun c => by omega⟩
    · -- found
      rw [decide_eq_true (hv.mp c), Bool.true_or] at ha
      refine b250_144 (b250_103 ?_)
      rw [show ((k : Int) + 1).toNat = k + 1 by omega, h27]
      exact ⟨⟨by omega, by omega⟩, ⟨by omega, by omega⟩, ⟨by omega, by omega⟩, fun _ => ⟨⟨by decide, by decide⟩, fun c2 => absurd c2 (by decide), fun _ => h true _ ha.symm⟩, fun _ => h true _ ha.symm⟩
    · rw [decide_eq_false (fun z => c (hv.mpr z)), Bool.false_or] at ha
      refine b250_144 ?_
      rw [show (e : Int) + 1 = ((e + 1 : Nat) : Int) by omega]
      exact ih (e + 1) (by omega) ha
/-- one pass over all states -/
theorem k250pass {act n : Nat} {g : gS} (hB : RB I D act g) (hs : gSp g = false) (hF : ∀ i, i < gN g → gF g i ≤ gF g (i + 1) ∧ gF g (i + 1) ≤ gM g) (hn : n ≤ 2000)
    (h : ∀ (I' : Nat → Nat → Int) (fl : Bool) (v3 v4 v5 : zV), (∀ a, ¬ a = 2772 → I' a = I a) → (∀ k, k < gN g → I' 2772 k = lv D g (n + 1) k) → (fl = false → ∀ k, k < gN g → lv D g (n + 1) k = lv D g n k) → (fl = true → ∃ k, k < gN g ∧ ¬ lv D g (n + 1) k = lv D g n k) → Go sc d mt_250 63 [vr 1835, vi ((fl.toNat : Nat) : Int), vi ((n + 1 + 1 : Nat) : Int), v3, v4, v5] [] (z_cfg t, I', J) Q) :
    ∀ (m k : Nat) (I1 : Nat → Nat → Int) (fl : Bool) (v4 v5 : zV), k + m = gN g → (∀ a, ¬ a = 2772 → I1 a = I a) → (∀ j, j < k → I1 2772 j = lv D g (n + 1) j) → (∀ j, k ≤ j → j < gN g → I1 2772 j = lv D g n j) → (fl = false → ∀ j, j < k → lv D g (n + 1) j = lv D g n j) → (fl = true → ∃ j, j < gN g ∧ ¬ lv D g (n + 1) j = lv D g n j) → Go sc d mt_250 71 [vr 1835, vi ((fl.toNat : Nat) : Int), vi ((n + 1 : Nat) : Int), vi (k : Int), v4, v5] [] (z_cfg t, I1, J) Q := by
  have hG : RG I g := by
    rcases hB.1 with ⟨z, -⟩ | ⟨-, z⟩
    · rw [hs] at z; cases z
    · exact z
  obtain ⟨X, T, g3, g4⟩ := hG.2.2.1
  have hO := hB.2.1
  have hN := hO.1.1
  have hM := hO.2.1
  intro m
  induction m with
  | zero =>
    intro k I1 fl v4 v5 hk h1 h2 h3 h4 h5
    refine b250_71 ?_
    rw [h1 1835 (by decide), g3.2.1]
    refine ⟨⟨by omega, by omega⟩, ⟨by omega, by omega⟩, fun c => by omega, fun _ => ?_⟩
    rw [show ((n + 1 : Nat) : Int) + 1 = ((n + 1 + 1 : Nat) : Int) by omega]
    exact h I1 fl _ _ _ h1 (fun j hj => h2 j (by omega)) (fun z j hj => h4 z j (by omega)) h5
  | succ m ih =>
    intro k I1 fl v4 v5 hk h1 h2 h3 h4 h5
    have hkn : k < gN g := by omega
    have hin0 := lv_in (D := D) (g := g) n k
    have hlv : lv D g (n + 1) k = if lv D g n k = -1 ∧ anyE g k (fun j => decide (lv D g n j = n)) = true then ((n + 1 : Nat) : Int) else lv D g n k := rfl
    -- on, the state's value as it was
    have same : ∀ (u4 u5 : zV), lv D g (n + 1) k = lv D g n k → Go sc d mt_250 169 [vr 1835, vi ((fl.toNat : Nat) : Int), vi ((n + 1 : Nat) : Int), vi (k : Int), u4, u5] [] (z_cfg t, I1, J) Q := by
      intro u4 u5 e
      refine b250_169 ?_
      rw [show (k : Int) + 1 = ((k + 1 : Nat) : Int) by omega]
      refine ih (k + 1) I1 fl _ _ (by omega) h1 (fun j hj => ?_) (fun j a b => h3 j (by omega) b) (fun z j hj => ?_) h5
      · by_cases q : j = k
        · rw [q, e]; exact h3 k (Nat.le_refl _) hkn
        · exact h2 j (by omega)
      · by_cases q : j = k
        · rw [q]; exact e
        · exact h4 z j (by omega)
    refine b250_71 ?_
    rw [h1 1835 (by decide), g3.2.1, Int.toNat_natCast, h3 k (Nat.le_refl _) hkn, h1 2708 (by decide), hB.2.2 hs k (by omega)]
    refine ⟨⟨by omega, by omega⟩, ⟨by omega, by omega⟩, fun _ => ⟨⟨by omega, by omega⟩, ⟨by omega, by omega⟩, fun c => ⟨⟨by omega, by omega⟩, ?_⟩, fun c => same _ _ (by rw [hlv, if_neg (fun z => c z.1)])⟩, fun c => by omega⟩
    have hFk := hF k hkn
    refine k250edges (D := D) (g := g) (n := n) hkn hN hM (by omega) hFk.2 (fun e he => (hO.2.2.2.2.2 e he).2.2.2) (by rw [h1 2708 (by decide)]; exact hB.2.2 hs (k + 1) (by omega)) (fun e he => by rw [h1 2932 (by decide)]; exact (hG.2.2.2.2 e he).2.2.2) (fun j hj => ?_) (fun v x5 hv => ?_) (gF g (k + 1) - gF g k) (gF g k) (by omega) rfl
    · by_cases q : j < k
      · exact Or.inl (h2 j q)
      · exact Or.inr (h3 j (by omega) hj)
    · cases v with
      | false =>
        refine b250_152 ⟨⟨by decide, by decide⟩, fun _ => same _ _ (by rw [hlv, if_neg (fun z => by rw [← hv] at z; cases z.2)]), fun c2 => absurd rfl c2⟩
      | true =>
        have e : lv D g (n + 1) k = ((n + 1 : Nat) : Int) := by rw [hlv, if_pos ⟨c, hv.symm⟩]
        refine b250_152 ⟨⟨by decide, by decide⟩, fun c2 => absurd c2 (by decide), fun _ => ⟨⟨by omega, by omega⟩, b250_169 ?_⟩⟩
        rw [show (k : Int) + 1 = ((k + 1 : Nat) : Int) by omega, Int.toNat_natCast]
        refine ih (k + 1) _ true _ _ (by omega) (fun a ha => by rw [zu_ne ha, h1 a ha]) (fun j hj => ?_) (fun j a b => ?_) (fun z => by cases z) (fun _ => ⟨k, hkn, by rw [e, c]; omega⟩)
        · rw [zu_at]
          by_cases q : j = k
          · rw [if_pos q, q, e]
          · rw [if_neg q]; exact h2 j (by omega)
        · rw [zu_nk (by omega)]
          exact h3 j (by omega) b
theorem k250 {act : Nat} {g : gS} (hd : 2 ≤ d) (hV : RV I D ho lo) (hB : RB I D act g) (hs : gSp g = false) (hF : ∀ i, i < gN g → gF g i ≤ gF g (i + 1) ∧ gF g (i + 1) ≤ gM g)
    (h : ∀ (I' : Nat → Nat → Int) (n : Nat), (∀ a, ¬ a = 2772 → I' a = I a) → (∀ k, k < gN g → I' 2772 k = lv D g n k) → (∀ k, k < gN g → lv D g (n + 1) k = lv D g n k) → Q (.inl none) (z_cfg t, I', J)) :
    Go sc d mt_250 0 [vr 1835, vn, vn, vn, vn, vn] [] (z_cfg t, I, J) Q := by
  have hG : RG I g := by
    rcases hB.1 with ⟨z, -⟩ | ⟨-, z⟩
    · rw [hs] at z; cases z
    · exact z
  obtain ⟨X, T, g3, g4⟩ := hG.2.2.1
  have hO := hB.2.1
  have hN := hO.1.1
  have hM := hO.2.1
  have hD := hV.2.2
  -- the passes
  have passes : ∀ (c n : Nat) (I1 : Nat → Nat → Int) (fl : Bool) (v3 v4 v5 : zV), cno D g n (gN g) ≤ c → n + cno D g n (gN g) ≤ gN g → (∀ a, ¬ a = 2772 → I1 a = I a) → (∀ k, k < gN g → I1 2772 k = lv D g n k) → (fl = false → ∀ k, k < gN g → lv D g (n + 1) k = lv D g n k) → Go sc d mt_250 63 [vr 1835, vi ((fl.toNat : Nat) : Int), vi ((n + 1 : Nat) : Int), v3, v4, v5] [] (z_cfg t, I1, J) Q := by
    intro c
    induction c with
    | zero =>
      intro n I1 fl v3 v4 v5 hc hcn h1 h2 h3
      cases fl with
      | false => exact b250_63 ⟨⟨by decide, by decide⟩, fun _ => h I1 n h1 h2 (h3 rfl), fun c => absurd rfl c⟩
      | true =>
        refine b250_63 ⟨⟨by decide, by decide⟩, fun c => absurd c (by decide), fun _ => ?_⟩
        have hB1 : RB I1 D act g := ⟨hB.1.to (fun q _ => by rw [h1 1835 (by decide)]) (fun a ha => h1 a (by omega)), hO, fun z i hi => by rw [h1 2708 (by decide)]; exact hB.2.2 z i hi⟩
        refine k250pass (D := D) (n := n) hB1 hs hF (by omega) (fun I' fl2 u3 u4 u5 p1 p2 p3 p4 => ?_) (gN g) 0 I1 false v4 v5 (by omega) (fun _ _ => rfl) (fun j hj => by omega) (fun j _ hj => h2 j hj) (fun _ j hj => by omega) (fun z => by cases z)
        cases fl2 with
        | false => exact b250_63 ⟨⟨by decide, by decide⟩, fun _ => h I' n (fun a ha => (p1 a ha).trans (h1 a ha)) (fun k hk => (p2 k hk).trans (p3 rfl k hk)) (p3 rfl), fun c => absurd rfl c⟩
        | true =>
          obtain ⟨k, hk, hc2⟩ := p4 rfl
          have := cno_lt (D := D) (g := g) (n := n) (gN g) hk hc2
          omega
    | succ c ih =>
      intro n I1 fl v3 v4 v5 hc hcn h1 h2 h3
      cases fl with
      | false => exact b250_63 ⟨⟨by decide, by decide⟩, fun _ => h I1 n h1 h2 (h3 rfl), fun c => absurd rfl c⟩
      | true =>
        refine b250_63 ⟨⟨by decide, by decide⟩, fun c => absurd c (by decide), fun _ => ?_⟩
        have hB1 : RB I1 D act g := ⟨hB.1.to (fun q _ => by rw [h1 1835 (by decide)]) (fun a ha => h1 a (by omega)), hO, fun z i hi => by rw [h1 2708 (by decide)]; exact hB.2.2 z i hi⟩
        refine k250pass (D := D) (n := n) hB1 hs hF (by omega) (fun I' fl2 u3 u4 u5 p1 p2 p3 p4 => ?_) (gN g) 0 I1 false v4 v5 (by omega) (fun _ _ => rfl) (fun j hj => by omega) (fun j _ hj => h2 j hj) (fun _ j hj => by omega) (fun z => by cases z)
        cases fl2 with
        | false => exact b250_63 ⟨⟨by decide, by decide⟩, fun _ => h I' n (fun a ha => (p1 a ha).trans (h1 a ha)) (fun k hk => (p2 k hk).trans (p3 rfl k hk)) (p3 rfl), fun c => absurd rfl c⟩
        | true =>
          obtain ⟨k, hk, hc2⟩ := p4 rfl
          have := cno_lt (D := D) (g := g) (n := n) (gN g) hk hc2
          exact ih (n + 1) I' true u3 u4 u5 (by omega) (by omega) (fun a ha => (p1 a ha).trans (h1 a ha)) p2 (fun z => by cases z)
  -- the goals
  have goals : ∀ (m i : Nat) (I1 : Nat → Nat → Int) (fl : Bool), i + m = gN g → (∀ a, ¬ a = 2772 → I1 a = I a) → (∀ j, j < i → I1 2772 j = lv D g 0 j) → (fl = false → ∀ j, j < i → lv D g 0 j = -1) → Go sc d mt_250 4 [vr 1835, vi ((fl.toNat : Nat) : Int), vi (i : Int), vn, vn, vn] [] (z_cfg t, I1, J) Q := by
    intro m
    induction m with
    | zero =>
      intro i I1 fl hi h1 h2 h3
      refine b250_4 ?_
      rw [h1 1835 (by decide), g3.2.1]
      refine ⟨⟨by omega, by omega⟩, ⟨by omega, by omega⟩, fun c => by omega, fun _ => ?_⟩
      refine passes (cno D g 0 (gN g)) 0 I1 fl vn vn vn (Nat.le_refl _) (by have := cno_m (D := D) (g := g) (n := 0) (gN g); omega) h1 (fun k hk => h2 k (by omega)) (fun z k hk => ?_)
      have hlv : lv D g (0 + 1) k = if lv D g 0 k = -1 ∧ anyE g k (fun j => decide (lv D g 0 j = (0 : Nat))) = true then ((0 + 1 : Nat) : Int) else lv D g 0 k := rfl
      rw [hlv, if_neg]
      intro w
      obtain ⟨e, he1, he2⟩ := List.any_eq_true.mp w.2
      have he3 := List.mem_range'_1.mp he1
      have hFk := hF k hk
      have hj := (hO.2.2.2.2.2 e (by omega)).2.2.2
      have := h3 z (gE g e).2.2.2 (by omega)
      have he2 := of_decide_eq_true he2
      omega
    | succ m ih =>
      intro i I1 fl hi h1 h2 h3
      have hin : i < gN g := by omega
      refine b250_4 ?_
      rw [h1 1835 (by decide), g3.2.1, Int.toNat_natCast, h1 2676 (by decide), (g3.2.2.1 i hin).1]
      refine ⟨⟨by omega, by omega⟩, ⟨by omega, by omega⟩, fun _ => ⟨⟨by omega, by omega⟩, ?_⟩, fun c => by omega⟩
      have hR1 : RD I1 D ho lo := hV.1.fr (fun k _ => by rw [h1 1835 (by decide)]) (fun a ha => h1 a (by omega))
      refine c251 (by omega) (fun d' _ => k251 rfl (by omega) hR1 hD (g4 i hin) (hO.2.2.1 i hin).1 ?_)
      have hlv : lv D g 0 i = if dGoal D (gX g i) = true then 0 else -1 := rfl
      -- the value laid, and whether any is a goal
      have lay : ∀ x : Int, x = lv D g 0 i → (x = 0 ∨ x = -1) → Go sc d mt_250 35 [vr 1835, vi ((fl.toNat : Nat) : Int), vi (i : Int), vn, vn, vn] [vi x, vi (i : Int), vr 2772] (z_cfg t, I1, J) Q := by
        intro x hx hx2
        have on : ∀ fl2 : Bool, (fl2 = false → fl = false ∧ ¬ x = 0) → Go sc d mt_250 54 [vr 1835, vi ((fl.toNat : Nat) : Int), vi (i : Int), vn, vn, vn] [vi ((fl2.toNat : Nat) : Int)] (z_cfg t, z_u I1 2772 i x, J) Q := by
          intro fl2 hf2
          refine b250_54 ?_
          rw [show (i : Int) + 1 = ((i + 1 : Nat) : Int) by omega]
          refine ih (i + 1) _ fl2 (by omega) (fun a ha => by rw [zu_ne ha, h1 a ha]) (fun j hj => ?_) (fun z j hj => ?_)
          · rw [zu_at]
            by_cases q : j = i
            · rw [if_pos q, q, hx]
            · rw [if_neg q]; exact h2 j (by omega)
          · obtain ⟨y1, y2⟩ := hf2 z
            by_cases q : j = i
            · rw [q, ← hx]; omega
            · exact h3 y1 j (by omega)
        refine b250_35 ?_
        rw [Int.toNat_natCast, zu_same]
        refine ⟨⟨by omega, by omega⟩, ?_⟩
        cases fl with
        | false =>
          refine ⟨⟨by decide, by decide⟩, fun _ => ⟨⟨by omega, by omega⟩, ⟨by omega, by omega⟩, fun c => b250_49 (on true (fun z => by cases z)), fun c => on false (fun _ => ⟨rfl, c⟩)⟩, fun c => absurd rfl c⟩
        | true =>
          exact ⟨⟨by decide, by decide⟩, fun c => absurd c (by decide), fun _ => b250_49 (on true (fun z => by cases z))⟩
      cases hg : dGoal D (gX g i) with
      | false =>
        rw [hg, if_neg (by decide)] at hlv
        exact b250_27 ⟨⟨by decide, by decide⟩, fun _ => lay (-1) hlv.symm (Or.inr rfl), fun c => absurd rfl c⟩
      | true =>
        rw [hg, if_pos rfl] at hlv
        exact b250_27 ⟨⟨by decide, by decide⟩, fun c => absurd c (by decide), fun _ => lay 0 hlv.symm (Or.inl rfl)⟩
  exact b250_0 (goals (gN g) 0 I false (by omega) (fun _ _ => rfl) (fun j hj => by omega) (fun _ j hj => by omega))
end
