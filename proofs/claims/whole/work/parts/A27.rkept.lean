/-! ===== the reference: way, where, rides ===== -/
/-- the kept way, if there is one -/
def KXo (I : Nat → Nat → Int) (D : tD) (K : Option (List (Nat × Nat × Nat))) : Prop := match K with
  | none => I 1835 70 = -1
  | some l => KX I D l ∧ LO D l
def KCo (I : Nat → Nat → Int) (D : tD) (K : Option (List (Nat × Nat × Nat))) : Prop := match K with
  | none => I 1672 0 = -1
  | some l => KC I D l ∧ LO D l
section
variable {sc : mS} {d : Nat} {t : zT} {I J : Nat → Nat → Int} {Q : zR → zW → Prop} {D : tD} {K : Option (List (Nat × Nat × Nat))}
theorem KX.f0 {l : List (Nat × Nat × Nat)} {v : Int} (h : KX I D l) : KX (z_u I 1835 0 v) D l := by
  obtain ⟨a, b, c, e⟩ := h
  unfold KX
  rw [zu_nk (by decide : ¬ 70 = 0), zu_nk (by decide : ¬ 71 = 0), zu_ne (by decide : ¬ 3060 = 1835), zu_ne (by decide : ¬ 3092 = 1835), zu_ne (by decide : ¬ 3124 = 1835), zu_ne (by decide : ¬ 3156 = 1835), zu_ne (by decide : ¬ 3188 = 1835)]
  exact ⟨a, b, c, e⟩
theorem mins_s {l : List (Nat × Nat × Nat)} {n : Nat} (h : n < l.length) : mins D (l.take (n + 1)) = mins D (l.take n) + mx (dT D) (dMi D) (lc l n).2.2 := by
  have : l.take (n + 1) = l.take n ++ [lc l n] := by
    rw [List.take_succ, lc_some h]
    rfl
  rw [this]
  unfold mins
  rw [List.map_append, List.sum_append]
  rfl
theorem mins_le {l : List (Nat × Nat × Nat)} (hD : dOk D) : ∀ n, n ≤ l.length → mins D (l.take n) ≤ 99 * n := by
  intro n
  induction n with
  | zero => intro _; exact Nat.le_refl _
  | succ n ih =>
    intro hn
    rw [mins_s (by omega)]
    have := (dsm hD (lc l n).2.2).2.2.2
    have := ih (by omega)
    omega
theorem k259 {x1 x2 : Int} (h1 : inR x1) (h2 : inR x2) (hd : 1 ≤ d) (hD : dOk D) (hK : KXo I D K)
    (hno : ¬ (∃ l, K = some l ∧ wayOk l x1 x2) → Q (.inl (some (vi 0))) (z_cfg t, z_u (z_u I 1835 0 0) 1835 0 1, J))
    (h : ∀ l, K = some l → wayOk l x1 x2 → Q (.inl (some (vi (wayA D l x1 x2)))) (z_cfg t, z_u I 1835 0 0, J)) :
    Go sc d mt_259 0 [vr 1835, vi x1, vi x2, vn, vn] [] (z_cfg t, I, J) Q := by
  have bad : ¬ (∃ l, K = some l ∧ wayOk l x1 x2) → Go sc d mt_259 53 [vr 1835, vi x1, vi x2, vn, vn] [vr 1835] (z_cfg t, z_u I 1835 0 0, J) Q := fun hb => b259_53 (b259_54 (c189 hd (fun d' _ => k189n rfl (zu_same _ _ _ _) (b259_58 ⟨⟨by decide, by decide⟩, fun _ => hno hb, fun z => absurd rfl z⟩))))
  refine b259_0 ?_
  cases K with
  | none =>
    have hK : I 1835 70 = -1 := hK
    rw [hK]
    have hb : ¬ ∃ l, (none : Option (List (Nat × Nat × Nat))) = some l ∧ wayOk l x1 x2 := fun ⟨l, z, _⟩ => by cases z
    exact ⟨⟨by decide, by decide⟩, fun _ => bad hb, fun z => absurd rfl z⟩
  | some l =>
    obtain ⟨hX, hL⟩ : KX I D l ∧ LO D l := hK
    have hl2 := hL.1
    have nb : ¬ wayOk l x1 x2 → ¬ ∃ l', some l = some l' ∧ wayOk l' x1 x2 := fun hn ⟨l', z, y⟩ => by cases z; exact hn y
    have hX0 := hX.f0 (v := 0)
    rw [hX.1]
    have good : wayOk l x1 x2 → Go sc d mt_259 49 [vr 1835, vi x1, vi x2, vn, vn] [vr 1835] (z_cfg t, z_u I 1835 0 0, J) Q := by
      intro hw
      have hq := h l rfl hw
      obtain ⟨w1, w2, w3⟩ := hw
      refine b259_49 (b259_54 (c189 hd (fun d' _ => k189y rfl (zu_same _ _ _ _) (b259_58 ⟨⟨by decide, by decide⟩, fun z => absurd z (by decide), fun _ => ⟨h1, fun c => ?_, fun c => ⟨h2, fun c2 => ⟨⟨by omega, by omega⟩, ?_⟩, fun c2 => ⟨fun c3 => ⟨⟨by omega, by omega⟩, ?_⟩, fun c3 => ⟨fun c4 => ⟨⟨by omega, by omega⟩, ?_⟩, fun c4 => ⟨⟨by omega, by omega⟩, ?_⟩⟩⟩⟩⟩⟩))))
      · have loop : ∀ (m k : Nat), k + m = l.length → Go sc d mt_259 120 [vr 1835, vi x1, vi x2, vi ((mins D (l.take k) : Nat) : Int), vi (k : Int)] [] (z_cfg t, z_u I 1835 0 0, J) Q := by
          intro m
          induction m with
          | zero =>
            intro k hk
            have hk : k = l.length := by omega
            subst hk
            refine b259_120 ?_
            rw [hX0.1, List.take_of_length_le (Nat.le_refl _)]
            unfold wayA at hq
            rw [if_pos (by omega)] at hq
            refine ⟨⟨by omega, by omega⟩, ⟨by omega, by omega⟩, fun z => by omega, fun _ => ⟨h2, fun c2 => ?_, fun c2 => ?_⟩⟩
            · rw [if_pos c2] at hq; exact hq
            · rw [if_neg c2] at hq; exact hq
          | succ m ih =>
            intro k hk
            refine b259_120 ?_
            rw [hX0.1, Int.toNat_natCast, (hX0.2.2.1 k _ (lc_some (by omega))).2.2.2]
            refine ⟨⟨by omega, by omega⟩, ⟨by omega, by omega⟩, fun _ => ⟨⟨by omega, by omega⟩, ?_⟩, fun z => by omega⟩
            have := ih (k + 1) (by omega)
            rw [mins_s (by omega : k < l.length)] at this
            rw [show (k : Int) + 1 = ((k + 1 : Nat) : Int) by omega, show ((mins D (l.take k) : Nat) : Int) + ((mx (dT D) (dMi D) (lc l k).2.2 : Nat) : Int) = ((mins D (l.take k) + mx (dT D) (dMi D) (lc l k).2.2 : Nat) : Int) by omega]
            exact this
        exact loop l.length 0 (by omega)
      all_goals have hr := hX0.2.2.1 x1.toNat _ (lc_some (by omega)); unfold wayA at hq; rw [if_neg (by omega)] at hq
      · rw [if_pos c2] at hq
        rw [hr.1]
        exact hq
      · rw [if_neg c2, if_pos c3] at hq
        rw [hr.2.1]
        exact hq
      · rw [if_neg c2, if_neg c3, if_pos c4] at hq
        rw [hr.2.2.1]
        exact hq
      · rw [if_neg c2, if_neg c3, if_neg c4] at hq
        rw [hr.2.2.2]
        exact hq
    refine ⟨⟨by omega, by omega⟩, fun z => by omega, fun _ => ⟨h1, fun c => bad (nb (fun w => by have := w.1; omega)), fun c => ⟨fun c2 => ⟨h2, fun c3 => bad (nb (fun w => by have := w.2.1; omega)), fun c3 => ⟨fun c4 => bad (nb (fun w => by have := w.2.1; omega)), fun c4 => ⟨fun c5 => ⟨fun c6 => good ⟨by omega, by omega, by omega⟩, fun c6 => ⟨fun c7 => good ⟨by omega, by omega, by omega⟩, fun c7 => bad (nb (fun w => by have := w.2.2; omega))⟩⟩, fun c5 => good ⟨by omega, by omega, by omega⟩⟩⟩⟩, fun c2 => bad (nb (fun w => by have := w.1; omega))⟩⟩⟩
theorem k260 {x1 x2 : Int} (h1 : inR x1) (h2 : inR x2) (hd : 1 ≤ d) (hD : dOk D) (hK : KXo I D K)
    (hno : ¬ (∃ l, K = some l ∧ (0 ≤ x1 ∧ x1 ≤ (l.length : Int)) ∧ (0 ≤ x2 ∧ x2 < dT D)) → Q (.inl (some (vi 0))) (z_cfg t, z_u (z_u I 1835 0 0) 1835 0 1, J))
    (h : ∀ l, K = some l → (0 ≤ x1 ∧ x1 ≤ (l.length : Int)) → (0 ≤ x2 ∧ x2 < dT D) → Q (.inl (some (vi ((lshore (aft D l x1.toNat) x2.toNat : Nat) : Int)))) (z_cfg t, z_u I 1835 0 0, J)) :
    Go sc d mt_260 0 [vr 1835, vi x1, vi x2] [] (z_cfg t, I, J) Q := by
  have bad : ¬ (∃ l, K = some l ∧ (0 ≤ x1 ∧ x1 ≤ (l.length : Int)) ∧ (0 ≤ x2 ∧ x2 < dT D)) → Go sc d mt_260 42 [vr 1835, vi x1, vi x2] [vr 1835] (z_cfg t, z_u I 1835 0 0, J) Q := fun hb => b260_42 (b260_43 (c189 hd (fun d' _ => k189n rfl (zu_same _ _ _ _) (b260_47 ⟨⟨by decide, by decide⟩, fun _ => hno hb, fun z => absurd rfl z⟩))))
  have h8 := hD.2.1
  refine b260_0 ?_
  cases K with
  | none =>
    have hK : I 1835 70 = -1 := hK
    rw [hK]
    exact ⟨⟨by decide, by decide⟩, fun _ => bad (fun ⟨l, z, _⟩ => by cases z), fun z => absurd rfl z⟩
  | some l =>
    obtain ⟨hX, hL⟩ : KX I D l ∧ LO D l := hK
    have hl2 := hL.1
    have nb : ¬ ((0 ≤ x1 ∧ x1 ≤ (l.length : Int)) ∧ (0 ≤ x2 ∧ x2 < dT D)) → ¬ ∃ l', some l = some l' ∧ (0 ≤ x1 ∧ x1 ≤ (l'.length : Int)) ∧ (0 ≤ x2 ∧ x2 < dT D) := fun hn ⟨l', z, y⟩ => by cases z; exact hn y
    have hX0 := hX.f0 (v := 0)
    rw [hX.1, hX.2.1]
    refine ⟨⟨by omega, by omega⟩, fun z => by omega, fun _ => ⟨h1, fun c => bad (nb (by omega)), fun c => ⟨fun c2 => bad (nb (by omega)), fun c2 => ⟨h2, fun c3 => bad (nb (by omega)), fun c3 => ⟨⟨by omega, by omega⟩, fun c4 => ?_, fun c4 => bad (nb (by omega))⟩⟩⟩⟩⟩
    have hq := h l rfl (by omega) (by omega)
    refine b260_43 (c189 hd (fun d' _ => k189y rfl (zu_same _ _ _ _) (b260_47 ⟨⟨by decide, by decide⟩, fun z => absurd z (by decide), fun _ => ⟨⟨by omega, by omega⟩, ?_⟩⟩)))
    obtain ⟨r, hr1, hr2⟩ := hX0.2.2.2 x1.toNat (by omega)
    rw [hr1, show 2 * x2 = ((2 * x2.toNat : Nat) : Int) by omega, zdg hr2.1 (by omega), hr2.2.1 x2.toNat (by omega)]
    exact hq
theorem aln_iff {s k n : Nat} (hn : n ≤ 8) (hk : k < n) : lash s (lshore s k) n = 2 ^ k ↔ ∀ i, i < n → i = k ∨ ¬ lshore s i = lshore s k := by
  constructor
  · intro h i hi
    have : (lash s (lshore s k) n).testBit i = (2 ^ k).testBit i := by rw [h]
    unfold lash at this
    rw [msk_bit, decide_eq_true hi, Bool.true_and, Nat.testBit_two_pow] at this
    by_cases c : i = k
    · exact Or.inl c
    · refine Or.inr (fun z => ?_)
      rw [z, decide_eq_false (fun q => c q.symm)] at this
      rw [show Nat.beq (lshore s k) (lshore s k) = true from Nat.beq_refl _] at this
      cases this
  · intro h
    apply Nat.eq_of_testBit_eq
    intro i
    unfold lash
    rw [msk_bit, Nat.testBit_two_pow]
    by_cases c : i = k
    · rw [c, decide_eq_true hk, show Nat.beq (lshore s k) (lshore s k) = true from Nat.beq_refl _, decide_eq_true rfl]
      rfl
    · rw [decide_eq_false (fun q : k = i => c q.symm)]
      by_cases ci : i < n
      · have h1 := (h i ci).resolve_left c
        have : Nat.beq (lshore s i) (lshore s k) = false := by
          cases hb : Nat.beq (lshore s i) (lshore s k) with
          | false => rfl
          | true => exact absurd (Nat.eq_of_beq_eq_true hb) h1
        rw [this, Bool.and_false]
      · rw [decide_eq_false ci, Bool.false_and]
theorem k261 {x1 x2 : Int} (h1 : inR x1) (h2 : inR x2) (hd : 1 ≤ d) (hD : dOk D) (hK : KXo I D K)
    (hno : ¬ (∃ l, K = some l ∧ (0 ≤ x1 ∧ x1 < dT D) ∧ (x2 = 0 ∨ x2 = 1)) → Q (.inl (some (vi 0))) (z_cfg t, z_u (z_u I 1835 0 0) 1835 0 1, J))
    (h : ∀ l, K = some l → (0 ≤ x1 ∧ x1 < dT D) → (x2 = 0 ∨ x2 = 1) → Q (.inl (some (vi ((if x2 = 0 then cCar l x1.toNat l.length else cAln D l x1.toNat l.length : Nat) : Int)))) (z_cfg t, z_u I 1835 0 0, J)) :
    Go sc d mt_261 0 [vr 1835, vi x1, vi x2, vn, vn, vn, vn] [] (z_cfg t, I, J) Q := by
  have bad : ¬ (∃ l, K = some l ∧ (0 ≤ x1 ∧ x1 < dT D) ∧ (x2 = 0 ∨ x2 = 1)) → Go sc d mt_261 39 [vr 1835, vi x1, vi x2, vn, vn, vn, vn] [vr 1835] (z_cfg t, z_u I 1835 0 0, J) Q := fun hb => b261_39 (b261_40 (c189 hd (fun d' _ => k189n rfl (zu_same _ _ _ _) (b261_44 ⟨⟨by decide, by decide⟩, fun _ => hno hb, fun z => absurd rfl z⟩))))
  have h8 := hD.2.1
  refine b261_0 ?_
  cases K with
  | none =>
    have hK : I 1835 70 = -1 := hK
    rw [hK]
    exact ⟨⟨by decide, by decide⟩, fun _ => bad (fun ⟨l, z, _⟩ => by cases z), fun z => absurd rfl z⟩
  | some l =>
    obtain ⟨hX, hL⟩ : KX I D l ∧ LO D l := hK
    have hl2 := hL.1
    have nb : ¬ ((0 ≤ x1 ∧ x1 < dT D) ∧ (x2 = 0 ∨ x2 = 1)) → ¬ ∃ l', some l = some l' ∧ (0 ≤ x1 ∧ x1 < dT D) ∧ (x2 = 0 ∨ x2 = 1) := fun hn ⟨l', z, y⟩ => by cases z; exact hn y
    have hX0 := hX.f0 (v := 0)
    rw [hX.1, hX.2.1]
    have good : (0 ≤ x1 ∧ x1 < dT D) → (x2 = 0 ∨ x2 = 1) → Go sc d mt_261 35 [vr 1835, vi x1, vi x2, vn, vn, vn, vn] [vr 1835] (z_cfg t, z_u I 1835 0 0, J) Q := by
      intro ha hb
      have hq := h l rfl ha hb
      obtain ⟨k, hk⟩ : ∃ k : Nat, x1 = k := ⟨x1.toNat, by omega⟩
      subst hk
      rw [Int.toNat_natCast] at hq
      have hkT : k < dT D := by omega
      refine b261_35 (b261_40 (c189 hd (fun d' _ => k189y rfl (zu_same _ _ _ _) (b261_44 ⟨⟨by decide, by decide⟩, fun z => absurd z (by decide), fun _ => ?_⟩))))
      have loop : ∀ (m n : Nat) (v5 v6 : zV), n + m = l.length → Go sc d mt_261 54 [vr 1835, vi (k : Int), vi x2, vi ((if x2 = 0 then cCar l k n else cAln D l k n : Nat) : Int), vi (n : Int), v5, v6] [] (z_cfg t, z_u I 1835 0 0, J) Q := by
        intro m
        induction m with
        | zero =>
          intro n v5 v6 hn
          have : n = l.length := by omega
          subst this
          refine b261_54 ?_
          rw [hX0.1]
          exact ⟨⟨by omega, by omega⟩, ⟨by omega, by omega⟩, fun z => by omega, fun _ => hq⟩
        | succ m ih =>
          intro n v5 v6 hn
          have hnl : n < l.length := by omega
          have hc := c3_lt hD (hL.2 n _ (lc_some hnl))
          refine b261_54 ?_
          rw [hX0.1]
          refine ⟨⟨by omega, by omega⟩, ⟨by omega, by omega⟩, fun _ => ?_, fun z => by omega⟩
          obtain ⟨r, hr1, hr2⟩ := hX0.2.2.2 (n + 1) (by omega)
          have nx : ∀ (v : Nat) (x5 x6 : Int), v = (if x2 = 0 then ((lc l n).2.2.testBit k).toNat else (decide (lash (aft D l (n + 1)) (lshore (aft D l (n + 1)) k) (dT D) = 2 ^ k)).toNat) → Go sc d mt_261 165 [vr 1835, vi (k : Int), vi x2, vi ((if x2 = 0 then cCar l k n else cAln D l k n : Nat) : Int), vi (n : Int), vi x5, vi x6] [vi (v : Int), vi ((if x2 = 0 then cCar l k n else cAln D l k n : Nat) : Int)] (z_cfg t, z_u I 1835 0 0, J) Q := by
            intro v x5 x6 hv
            refine b261_165 ?_
            have := ih (n + 1) (vi x5) (vi x6) (by omega)
            rw [show (n : Int) + 1 = ((n + 1 : Nat) : Int) by omega, ← Int.natCast_add]
            have e : (if x2 = 0 then cCar l k n else cAln D l k n) + v = (if x2 = 0 then cCar l k (n + 1) else cAln D l k (n + 1)) := by
              rw [hv]
              split
              · rfl
              · rfl
            rw [e]
            exact this
          have inner : ∀ (m2 i : Nat) (al : Bool), i + m2 = dT D → (al = true ↔ ∀ j, j < i → j = k ∨ ¬ lshore (aft D l (n + 1)) j = lshore (aft D l (n + 1)) k) → Go sc d mt_261 69 [vr 1835, vi (k : Int), vi x2, vi ((if x2 = 0 then cCar l k n else cAln D l k n : Nat) : Int), vi (n : Int), vi ((al.toNat : Nat) : Int), vi (i : Int)] [] (z_cfg t, z_u I 1835 0 0, J) Q := by
            intro m2
            induction m2 with
            | zero =>
              intro i al hi hal
              have : i = dT D := by omega
              subst this
              rw [← aln_iff h8 hkT] at hal
              refine b261_69 ?_
              rw [hX0.2.1, Int.toNat_natCast, (hX0.2.2.1 n _ (lc_some hnl)).2.2.1, zbit (by omega) (by omega)]
              refine ⟨⟨by omega, by omega⟩, ⟨by omega, by omega⟩, fun z => by omega, fun _ => ⟨h2, fun c => ⟨⟨by omega, by omega⟩, nx _ _ _ (by rw [if_pos c])⟩, fun c => ?_⟩⟩
              cases al with
              | false => exact ⟨⟨by decide, by decide⟩, fun _ => nx 0 _ _ (by rw [if_neg c, decide_eq_false (fun z => by have := hal.mpr z; cases this)]; rfl), fun z => absurd rfl z⟩
              | true => exact ⟨⟨by decide, by decide⟩, fun z => absurd z (by decide), fun _ => nx 1 _ _ (by rw [if_neg c, decide_eq_true (hal.mp rfl)]; rfl)⟩
            | succ m2 ih2 =>
              intro i al hi hal
              have go : ∀ (v : Bool), (v = true ↔ ∀ j, j < i + 1 → j = k ∨ ¬ lshore (aft D l (n + 1)) j = lshore (aft D l (n + 1)) k) → Go sc d mt_261 128 [vr 1835, vi (k : Int), vi x2, vi ((if x2 = 0 then cCar l k n else cAln D l k n : Nat) : Int), vi (n : Int), vi ((al.toNat : Nat) : Int), vi (i : Int)] [vi ((v.toNat : Nat) : Int)] (z_cfg t, z_u I 1835 0 0, J) Q := by
                intro v hv
                refine b261_128 ?_
                rw [show (i : Int) + 1 = ((i + 1 : Nat) : Int) by omega]
                exact ih2 (i + 1) v (by omega) hv
              refine b261_69 ?_
              rw [hX0.2.1, show ((n : Int) + 1).toNat = n + 1 by omega, hr1, show 2 * (i : Int) = ((2 * i : Nat) : Int) by omega, show 2 * (k : Int) = ((2 * k : Nat) : Int) by omega, zdg hr2.1 (by omega), zdg hr2.1 (by omega), hr2.2.1 i (by omega), hr2.2.1 k (by omega)]
              refine ⟨⟨by omega, by omega⟩, ⟨by omega, by omega⟩, fun _ => ?_, fun z => by omega⟩
              cases al with
              | false =>
                refine ⟨⟨by decide, by decide⟩, fun _ => b261_127 (go false ⟨fun z => (by cases z), fun z => ?_⟩), fun z => absurd rfl z⟩
                exact hal.mpr (fun j hj => z j (by omega))
              | true =>
                have hal' := hal.mp rfl
                refine ⟨⟨by decide, by decide⟩, fun z => absurd z (by decide), fun _ => ⟨⟨by omega, by omega⟩, fun c => b261_123 (go true ⟨fun _ j hj => ?_, fun _ => rfl⟩), fun c => ⟨⟨by omega, by omega⟩, fun c2 => b261_127 (go false ⟨fun z => (by cases z), fun z => ?_⟩), fun c2 => b261_123 (go true ⟨fun _ j hj => ?_, fun _ => rfl⟩)⟩⟩⟩
                · by_cases q : j = i
                  · exact Or.inl (by omega)
                  · exact hal' j (by omega)
                · rcases z i (by omega) with y | y
                  · omega
                  · exact absurd (by omega) y
                · by_cases q : j = i
                  · rw [q]; exact Or.inr (fun y => c2 (by rw [y]))
                  · exact hal' j (by omega)
          exact inner (dT D) 0 true (by omega) ⟨fun _ j hj => by omega, fun _ => rfl⟩
      have := loop l.length 0 vn vn (by omega)
      have e0 : (if x2 = 0 then cCar l k 0 else cAln D l k 0) = 0 := by split <;> rfl
      rw [e0] at this
      exact this
    refine ⟨⟨by omega, by omega⟩, fun z => by omega, fun _ => ⟨h1, fun c => bad (nb (by omega)), fun c => ⟨⟨by omega, by omega⟩, fun c2 => ⟨h2, fun c3 => good (by omega) (Or.inl c3), fun c3 => ⟨fun c4 => good (by omega) (Or.inr c4), fun c4 => bad (nb (by omega))⟩⟩, fun c2 => bad (nb (by omega))⟩⟩⟩
end
