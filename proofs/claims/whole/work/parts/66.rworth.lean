/-! the reference: worth, barsOf -/
theorem encR_cases {n : Nat} {c : Int} (hn : n ≤ 8) (hc : cOk n c) : (c < 1000 ∧ encR c = [1, c]) ∨ ((1000 ≤ c ∧ c < 1200) ∧ ∃ w, encR c = [2, w]) ∨ (c = 1208 ∧ encR c = [3]) ∨ ((1200 ≤ c ∧ c ≤ 1207) ∧ ∃ w, encR c = [w] ∧ 4 ≤ w ∧ w ≤ 11) := by
  unfold cOk at hc
  unfold encR
  by_cases c1 : c < 1000
  · exact Or.inl ⟨c1, by rw [if_pos c1]⟩
  rw [if_neg c1]
  by_cases c2 : c < 1100
  · rw [if_pos c2]; exact Or.inr (Or.inl ⟨by omega, _, rfl⟩)
  rw [if_neg c2]
  by_cases c3 : c = 1100
  · rw [if_pos c3]; exact Or.inr (Or.inl ⟨by omega, _, rfl⟩)
  rw [if_neg c3]
  by_cases c4 : c = 1101
  · rw [if_pos c4]; exact Or.inr (Or.inl ⟨by omega, _, rfl⟩)
  rw [if_neg c4]
  by_cases c5 : c = 1102
  · rw [if_pos c5]; exact Or.inr (Or.inl ⟨by omega, _, rfl⟩)
  rw [if_neg c5]
  by_cases c6 : c = 1103
  · rw [if_pos c6]; exact Or.inr (Or.inl ⟨by omega, _, rfl⟩)
  rw [if_neg c6]
  by_cases c7 : c = 1104
  · rw [if_pos c7]; exact Or.inr (Or.inl ⟨by omega, _, rfl⟩)
  rw [if_neg c7]
  by_cases c8 : c = 1105
  · rw [if_pos c8]; exact Or.inr (Or.inl ⟨by omega, _, rfl⟩)
  rw [if_neg c8]
  by_cases c9 : c = 1200
  · rw [if_pos c9]; exact Or.inr (Or.inr (Or.inr ⟨by omega, _, rfl, by omega, by omega⟩))
  rw [if_neg c9]
  by_cases c10 : c = 1201
  · rw [if_pos c10]; exact Or.inr (Or.inr (Or.inr ⟨by omega, _, rfl, by omega, by omega⟩))
  rw [if_neg c10]
  by_cases c11 : c = 1208
  · rw [if_pos c11]; exact Or.inr (Or.inr (Or.inl ⟨c11, rfl⟩))
  rw [if_neg c11]
  exact Or.inr (Or.inr (Or.inr ⟨by omega, _, rfl, by omega, by omega⟩))
section
variable {sc : mS} {d : Nat} {t : zT} {I J : Nat → Nat → Int} {Q : zR → zW → Prop} {D : tD} {ho lo : Nat}
theorem k224loop {S p nb l : Nat} {x1 V : Int} (hd : 2 ≤ d) (hR : RD I D ho lo) (hD : dOk D) (hS : S ≤ dAll D) (h : ∀ (I' : Nat → Nat → Int), (∀ a, ¬ a = 2644 → I' a = I a) → Q (.inl (some (vi V))) (z_cfg t, I', J)) :
    ∀ (cs : List Int) (pos : Nat) (st : List Int) (I1 : Nat → Nat → Int) (v8 : zV), (∀ a, ¬ a = 2644 → I1 a = I a) → rowAt (I 2164) pos (cs.flatMap encR ++ [0]) → pos + (cs.flatMap encR).length + 1 ≤ 1200 → arr (I1 2644) st → cdep cs st.length = some 1 → (∀ c ∈ cs, cOk (dT D) c) → st.length + cs.length ≤ 720 → V = cev (cop D S p nb l) cs st →
      Go sc d mt_224 6 [vr 1835, vi x1, vi (S : Int), vi (p : Int), vi (nb : Int), vi (l : Int), vi (st.length : Int), vi (pos : Int), v8] [] (z_cfg t, I1, J) Q := by
  have hA := dAll_lt hD
  have hn := hD.2.1
  intro cs
  induction cs with
  | nil =>
    intro pos st I1 v8 hF hrow hpos ha hdp hok hst hV
    have hl : st.length = 1 := by
      have : some st.length = some 1 := hdp
      exact Option.some.inj this
    obtain ⟨x, rfl⟩ : ∃ x, st = [x] := by
      match st, hl with
      | [x], _ => exact ⟨x, rfl⟩
    simp only [List.flatMap_nil, List.nil_append, List.length_nil] at hrow hpos
    have e0 : I1 2164 ((pos : Int)).toNat = 0 := by
      rw [hF _ (by decide), Int.toNat_natCast]
      exact hrow 0 0 rfl
    refine b224_6 ⟨⟨by omega, by omega⟩, ?_⟩
    rw [e0]
    refine ⟨fun _ => ?_, fun c => absurd rfl c⟩
    have e1 : I1 2644 0 = x := arr_top (r := []) ha
    rw [e1]
    have : V = x := hV
    rw [← this]
    exact h I1 hF
  | cons c cs ih =>
    intro pos st I1 v8 hF hrow hpos ha hdp hok hst hV
    have hc := hok c List.mem_cons_self
    have hcr := cOk_in hn hc
    have hok2 : ∀ c ∈ cs, cOk (dT D) c := fun q hq => hok q (List.mem_cons_of_mem _ hq)
    have hR1 := hR.fb (FR.of hF)
    simp only [List.flatMap_cons, List.append_assoc, List.length_append, List.length_cons] at hrow hpos hst
    obtain ⟨r1, r2⟩ := rowAt_app hrow
    have upd : ∀ (k : Nat) (v : Int), ∀ a, ¬ a = 2644 → z_u I1 2644 k v a = I a := fun k v a ha => by
      rw [zu_ne ha]
      exact hF a ha
    have next : ∀ (st2 : List Int) (I2 : Nat → Nat → Int) (x8 : Int), (∀ a, ¬ a = 2644 → I2 a = I a) → arr (I2 2644) st2 → cdep cs st2.length = some 1 → st2.length + cs.length ≤ 720 → V = cev (cop D S p nb l) cs st2 → Go sc d mt_224 157 [vr 1835, vi x1, vi (S : Int), vi (p : Int), vi (nb : Int), vi (l : Int), vi (st2.length : Int), vi ((pos + (encR c).length : Nat) : Int), vi x8] [] (z_cfg t, I2, J) Q := by
      intro st2 I2 x8 hF2 ha2 hdp2 hst2 hV2
      exact b224_157 (ih (pos + (encR c).length) st2 I2 (vi x8) hF2 r2 (by omega) ha2 hdp2 hok2 hst2 hV2)
    -- an operand, pushed
    have push : ∀ (x8 v : Int), (encR c).length = 2 → c < 1200 → v = cop D S p nb l c → Go sc d mt_224 79 [vr 1835, vi x1, vi (S : Int), vi (p : Int), vi (nb : Int), vi (l : Int), vi (st.length : Int), vi ((pos : Int) + 1), vi x8] [vi v, vi (st.length : Int), vr 2644] (z_cfg t, I1, J) Q := by
      intro x8 v hl2 hlt hv
      refine b224_79 ⟨⟨by omega, by omega⟩, ?_⟩
      rw [Int.toNat_natCast]
      have hd2 : cdep cs (st.length + 1) = some 1 := by
        have z := hdp
        unfold cdep at z
        rw [if_pos hlt] at z
        split at z
        · exact z
        · cases z
      have := next (v :: st) _ x8 (upd st.length v) (by rw [zu_row]; exact arr_push ha) hd2 (by simp; omega) (by
        rw [hV, hv]
        unfold cev
        rw [List.foldl_cons]
        rw [show cst (cop D S p nb l) st c = cop D S p nb l c :: st from by unfold cst; rw [if_pos hlt]])
      rw [hl2] at this
      rw [show ((pos + 2 : Nat) : Int) = (pos : Int) + 1 + 1 by omega] at this
      exact this
    refine b224_6 ⟨⟨by omega, by omega⟩, ?_⟩
    rcases encR_cases hn hc with ⟨q1, q2⟩ | ⟨q1, w, q2⟩ | ⟨q1, q2⟩ | ⟨q1, w, q2, q3, q4⟩
    · rw [q2] at r1 hpos
      simp only [List.length_cons, List.length_nil] at hpos
      have a1 : I1 2164 ((pos : Int)).toNat = 1 := by
        rw [hF _ (by decide), Int.toNat_natCast]
        exact r1 0 1 rfl
      have a2 : I1 2164 (((pos : Int) + 1)).toNat = c := by
        rw [hF _ (by decide), show ((pos : Int) + 1).toNat = pos + 1 by omega]
        exact r1 1 c rfl
      rw [a1]
      refine ⟨fun z => absurd z (by decide), fun _ => ⟨fun _ => ?_, fun z => absurd rfl z⟩⟩
      refine b224_40 ⟨fun _ => ⟨⟨by omega, by omega⟩, ?_⟩, fun z => absurd rfl z⟩
      rw [a2]
      refine push 1 c (by rw [q2]; rfl) (by omega) ?_
      unfold cop
      rw [if_neg (by omega), if_neg (by omega), if_neg (by omega), if_neg (by omega), if_neg (by omega), if_neg (by omega), if_pos q1]
    · rw [q2] at r1 hpos
      simp only [List.length_cons, List.length_nil] at hpos
      have a1 : I1 2164 ((pos : Int)).toNat = 2 := by
        rw [hF _ (by decide), Int.toNat_natCast]
        exact r1 0 2 rfl
      have a2 : I1 2164 (((pos : Int) + 1)).toNat = w := by
        rw [hF _ (by decide), show ((pos : Int) + 1).toNat = pos + 1 by omega]
        exact r1 1 w rfl
      rw [a1]
      refine ⟨fun z => absurd z (by decide), fun _ => ⟨fun z => absurd z (by decide), fun _ => ⟨fun _ => ?_, fun z => absurd rfl z⟩⟩⟩
      refine b224_40 ⟨fun z => absurd z (by decide), fun _ => ⟨⟨by omega, by omega⟩, ?_⟩⟩
      rw [a2]
      refine c225 (by omega) (fun d' _ => k225 rfl rfl rfl rfl rfl (by omega) hc q2 hR1 hD hS ?_)
      exact push 2 _ (by rw [q2]; rfl) (by omega) rfl
    · rw [q2] at r1 hpos
      simp only [List.length_cons, List.length_nil] at hpos
      have a1 : I1 2164 ((pos : Int)).toNat = 3 := by
        rw [hF _ (by decide), Int.toNat_natCast]
        exact r1 0 3 rfl
      have z := hdp
      unfold cdep at z
      rw [if_neg (by omega), if_pos q1] at z
      split at z
      · rename_i hl1
        obtain ⟨x, r, rfl⟩ : ∃ x r, st = x :: r := by
          cases st with
          | nil => simp at hl1
          | cons x r => exact ⟨x, r, rfl⟩
        simp only [List.length_cons] at hst z ⊢
        have et : I1 2644 (((r.length + 1 : Nat) : Int) - 1).toNat = x := by
          rw [show (((r.length + 1 : Nat) : Int) - 1).toNat = r.length by omega]
          exact arr_top ha
        have fin : ∀ v : Int, v = (if wr x = 0 then 1 else 0) → Go sc d mt_224 120 [vr 1835, vi x1, vi (S : Int), vi (p : Int), vi (nb : Int), vi (l : Int), vi ((r.length + 1 : Nat) : Int), vi ((pos : Int) + 1), vi 3] [vi v, vi (((r.length + 1 : Nat) : Int) - 1), vr 2644] (z_cfg t, I1, J) Q := by
          intro v hv
          refine b224_120 ⟨⟨by omega, by omega⟩, ?_⟩
          rw [show (((r.length + 1 : Nat) : Int) - 1).toNat = r.length by omega]
          have := next (v :: r) _ 3 (upd r.length v) (by rw [zu_row]; exact arr_push (arr_tl ha)) z (by simp; omega) (by
            rw [hV, hv]
            unfold cev
            rw [List.foldl_cons]
            rw [show cst (cop D S p nb l) (x :: r) c = (if wr x = 0 then 1 else 0) :: r from by unfold cst; rw [if_neg (by omega), if_pos q1]])
          rw [q2] at this
          simp only [List.length_cons, List.length_nil] at this
          exact this
        rw [a1, et]
        exact ⟨fun z => absurd z (by decide), fun _ => ⟨fun z => absurd z (by decide), fun _ => ⟨fun z => absurd z (by decide), fun _ => ⟨fun _ => ⟨⟨by omega, by omega⟩, fun q => fin _ (by rw [if_pos q]), fun q => fin _ (by rw [if_neg q])⟩, fun z => absurd rfl z⟩⟩⟩⟩
      · cases z
    · rw [q2] at r1 hpos
      simp only [List.length_cons, List.length_nil] at hpos
      have a1 : I1 2164 ((pos : Int)).toNat = w := by
        rw [hF _ (by decide), Int.toNat_natCast]
        exact r1 0 w rfl
      have z := hdp
      unfold cdep at z
      rw [if_neg (by omega), if_neg (by omega)] at z
      split at z
      · rename_i hl2
        obtain ⟨y, x, r, rfl⟩ : ∃ y x r, st = y :: x :: r := by
          cases st with
          | nil => simp at hl2
          | cons y r =>
            cases r with
            | nil => simp at hl2
            | cons x r => exact ⟨y, x, r, rfl⟩
        simp only [List.length_cons] at hst z ⊢
        have e1 : I1 2644 (((r.length + 1 + 1 : Nat) : Int) + (-1)).toNat = y := by
          rw [show (((r.length + 1 + 1 : Nat) : Int) + (-1)).toNat = (x :: r).length by simp; omega]
          exact arr_top ha
        have e2 : I1 2644 ((((r.length + 1 + 1 : Nat) : Int) + (-1)) - 1).toNat = x := by
          rw [show ((((r.length + 1 + 1 : Nat) : Int) + (-1)) - 1).toNat = r.length by omega]
          exact arr_top (arr_tl ha)
        have hww : wr w = w := wr_id ⟨by omega, by omega⟩
        rw [a1, hww, e1, e2]
        refine ⟨fun z => by omega, fun _ => ⟨fun z => by omega, fun _ => ⟨fun z => by omega, fun _ => ⟨fun z => by omega, fun _ => ⟨⟨by omega, by omega⟩, ⟨by omega, by omega⟩, ?_⟩⟩⟩⟩⟩
        refine c229 (by omega) (fun d' _ => k229 rfl rfl rfl q1 q2 ?_)
        refine b224_156 ⟨⟨by omega, by omega⟩, ?_⟩
        rw [show ((((r.length + 1 + 1 : Nat) : Int) + (-1)) - 1).toNat = r.length by omega, show (((r.length + 1 + 1 : Nat) : Int) + (-1)) = ((cbin c x y :: r).length : Int) by simp; omega]
        have := next (cbin c x y :: r) _ w (upd r.length (cbin c x y)) (by rw [zu_row]; exact arr_push (arr_tl (arr_tl ha))) (by simpa using z) (by simp; omega) (by
          rw [hV]
          unfold cev
          rw [List.foldl_cons]
          rw [show cst (cop D S p nb l) (y :: x :: r) c = cbin c x y :: r from by unfold cst; rw [if_neg (by omega), if_neg (by omega)]])
        rw [q2] at this
        simp only [List.length_cons, List.length_nil] at this
        exact this
      · cases z
theorem k224 {x1 x2 x3 x4 x5 : Int} {k S p nb l : Nat} (hk : k < dL D) (e1 : x1 = I 2132 k) (e2 : x2 = S) (e3 : x3 = p) (e4 : x4 = nb) (e5 : x5 = l) (hd : 2 ≤ d) (hR : RD I D ho lo) (hD : dOk D) (hS : S ≤ dAll D)
    (h : ∀ (I' : Nat → Nat → Int), (∀ a, ¬ a = 2644 → I' a = I a) → Q (.inl (some (vi (cval D k S p nb l)))) (z_cfg t, I', J)) : Go sc d mt_224 0 [vr 1835, vi x1, vi x2, vi x3, vi x4, vi x5, vn, vn, vn] [] (z_cfg t, I, J) Q := by
  subst e2 e3 e4 e5
  obtain ⟨st, s1, s2, s3, s4⟩ := hR.2.2.2.2.2.2.2.2.2 k hk
  obtain ⟨-, q2, q3⟩ := hD.2.2.2.2.2.2.2.2 k hk
  rw [s1] at e1
  subst e1
  exact b224_0 (k224loop hd hR hD hS h (dCo D k) st [] I vn (fun a _ => rfl) s2 s3 (fun i hi => by simp at hi) q2 q3 (by simp; omega) rfl)
def dBarR (D : tD) (S p q l : Nat) : Nat := if S = 0 then 0 else dBar0 D S p q l
theorem dBarR_sh {S p q l : Nat} (h : ¬ p = dS D) : dBars D S p q l = dBarR D S p q l := by
  unfold dBars dBarR
  rw [if_neg h]
theorem dBarR_ab {S q l : Nat} : dBars D S (dS D) q l = dBarR D S (dS D) 1 l := by
  unfold dBars dBarR
  rw [if_pos rfl]
theorem k223loop {S p q l : Nat} (hd : 3 ≤ d) (hV : RV I D ho lo) (hS0 : 0 < S) (hS : S ≤ dAll D) (hp : p ≤ dS D) (hq : q ≤ 2) (hl : l ≤ 1) (h : ∀ I', FR I I' → RV I' D ho lo → Q (.inl (some (vi (dBar0 D S p q l)))) (z_cfg t, I', J)) :
    ∀ (m k : Nat) (I1 : Nat → Nat → Int) (v8 v9 : zV), k + m = dL D → (∀ a, ¬ a = 2644 → I1 a = I a) → Go sc d mt_223 48 [vr 1835, vi (S : Int), vi (p : Int), vi (q : Int), vi (l : Int), vi ((((S * 5 + p) * 3 + q) * 2 + l : Nat) : Int), vi ((msk k (fun k => dGoes D k p && decide (¬ wr (cval D k S p q l) = 0)) : Nat) : Int), vi (k : Int), v8, v9] [] (z_cfg t, I1, J) Q := by
  obtain ⟨hR, hK, hD⟩ := hV
  have hL := hD.2.2.2.1
  have hSS := hD.1
  have hA := dAll_lt hD
  intro m
  induction m with
  | zero =>
    intro k I1 v8 v9 hk hF
    have hk2 : k = dL D := by omega
    subst hk2
    have hR1 := hR.fb (FR.of hF)
    refine b223_48 ?_
    rw [hR1.2.2.2.1, wrn (by omega)]
    refine ⟨fun c => by omega, fun _ => ⟨⟨by omega, by omega⟩, ?_⟩⟩
    rw [Int.toNat_natCast]
    have hF2 : FR I (z_u I1 2612 (((S * 5 + p) * 3 + q) * 2 + l) ((dBar0 D S p q l : Nat) + 1)) := fun a ha hb => by
      rw [zu_ne ha]
      exact hF a hb
    refine h _ hF2 ⟨hR.fb hF2, fun S' p' q' l' z1 z2 z3 z4 z5 => ?_, hD⟩
    rw [zu_at]
    by_cases hx : ((S' * 5 + p') * 3 + q') * 2 + l' = ((S * 5 + p) * 3 + q) * 2 + l
    · rw [if_pos hx]
      have w2 : l' = l := by omega
      have w3 : q' = q := by omega
      have w4 : p' = p := by omega
      have w1 : S' = S := by omega
      subst w1 w2 w3 w4
      refine Or.inr ?_
      show ((dBar0 D S' p' q' l' : Nat) : Int) + 1 = _
      omega
    · rw [if_neg hx, hF 2612 (by decide)]
      exact hK S' p' q' l' z1 z2 z3 z4 z5
  | succ m ih =>
    intro k I1 v8 v9 hk hF
    have hR1 := hR.fb (FR.of hF)
    have hsc : I1 2100 ((k : Int)).toNat = dSc D k := by
      rw [Int.toNat_natCast]
      exact hR1.2.2.2.2.2.2.2.2.1 k (by omega)
    obtain ⟨q1, -, -⟩ := hD.2.2.2.2.2.2.2.2 k (by omega)
    have hmlt : msk k (fun k => dGoes D k p && decide (¬ wr (cval D k S p q l) = 0)) < 4096 := by
      have h1 := msk_lt k (fun k => dGoes D k p && decide (¬ wr (cval D k S p q l) = 0))
      have h2 : 2 ^ k ≤ 2 ^ 12 := Nat.pow_le_pow_right (by omega) (by omega)
      omega
    have hws : wr (dSc D k) = dSc D k := wr_id ⟨by omega, by omega⟩
    have key : ∀ (I2 : Nat → Nat → Int) (x x8 x9 : Int), (∀ a, ¬ a = 2644 → I2 a = I a) → x = ((msk (k + 1) (fun k => dGoes D k p && decide (¬ wr (cval D k S p q l) = 0)) : Nat) : Int) → Go sc d mt_223 156 [vr 1835, vi (S : Int), vi (p : Int), vi (q : Int), vi (l : Int), vi ((((S * 5 + p) * 3 + q) * 2 + l : Nat) : Int), vi x, vi (k : Int), vi x8, vi x9] [] (z_cfg t, I2, J) Q := by
      intro I2 x x8 x9 hF2 hx
      subst hx
      exact b223_156 (ih (k + 1) I2 _ _ (by omega) hF2)
    have yes : ∀ v9 : zV, dGoes D k p = true → Go sc d mt_223 116 [vr 1835, vi (S : Int), vi (p : Int), vi (q : Int), vi (l : Int), vi ((((S * 5 + p) * 3 + q) * 2 + l : Nat) : Int), vi ((msk k (fun k => dGoes D k p && decide (¬ wr (cval D k S p q l) = 0)) : Nat) : Int), vi (k : Int), vi (dSc D k), v9] [] (z_cfg t, I1, J) Q := by
      intro v9 hg
      refine b223_116 (b223_121 ⟨fun z => absurd z (by decide), fun _ => ⟨⟨by omega, by omega⟩, ?_⟩⟩)
      rw [Int.toNat_natCast]
      refine c224 (by omega) (fun d' _ => k224 (k := k) (by omega) rfl rfl rfl rfl rfl (by omega) hR1 hD hS (fun I2 hF2 => ?_))
      have hF3 : ∀ a, ¬ a = 2644 → I2 a = I a := fun a ha => (hF2 a ha).trans (hF a ha)
      refine b223_144 ⟨fun c => key I2 _ _ _ hF3 ?_, fun c => key I2 _ _ _ hF3 ?_⟩
      · rw [msk_no (f := fun k => dGoes D k p && decide (¬ wr (cval D k S p q l) = 0)) (by show (dGoes D k p && _) = false; rw [hg, decide_eq_false (fun z => z c)]; rfl)]
      · have h2 : 2 ^ k ≤ 2 ^ 12 := Nat.pow_le_pow_right (by omega) (by omega)
        have e1 : zshl 1 (k : Int) = ((1 * 2 ^ k : Nat) : Int) := zshl_n (x := 1) (by omega) (by omega)
        rw [e1, Nat.one_mul, zor_n (by omega) (by omega), msk_or (f := fun k => dGoes D k p && decide (¬ wr (cval D k S p q l) = 0)) (by show (dGoes D k p && _) = true; rw [hg, decide_eq_true c]; rfl)]
    have no : ∀ v9 : zV, dGoes D k p = false → Go sc d mt_223 120 [vr 1835, vi (S : Int), vi (p : Int), vi (q : Int), vi (l : Int), vi ((((S * 5 + p) * 3 + q) * 2 + l : Nat) : Int), vi ((msk k (fun k => dGoes D k p && decide (¬ wr (cval D k S p q l) = 0)) : Nat) : Int), vi (k : Int), vi (dSc D k), v9] [] (z_cfg t, I1, J) Q := by
      intro v9 hg
      refine b223_120 (b223_121 ⟨fun _ => key I1 _ _ _ hF ?_, fun z => absurd rfl z⟩)
      rw [msk_no (f := fun k => dGoes D k p && decide (¬ wr (cval D k S p q l) = 0)) (by show (dGoes D k p && _) = false; rw [hg]; rfl)]
    refine b223_48 ?_
    rw [hR1.2.2.2.1, hR1.1, hsc, hws, wrn (by omega : k < 2147483648), wrn (by omega : dL D < 2147483648), wrn (by omega : p < 2147483648), wrn (by omega : dS D < 2147483648)]
    have g102 : ¬ dSc D k = -1 → ¬ (dSc D k = -2 ∧ p < dS D) → ¬ (dSc D k = -3 ∧ p = dS D) → Go sc d mt_223 102 [vr 1835, vi (S : Int), vi (p : Int), vi (q : Int), vi (l : Int), vi ((((S * 5 + p) * 3 + q) * 2 + l : Nat) : Int), vi ((msk k (fun k => dGoes D k p && decide (¬ wr (cval D k S p q l) = 0)) : Nat) : Int), vi (k : Int), vi (dSc D k), v9] [] (z_cfg t, I1, J) Q := by
      intro c1 c2 c3
      refine b223_102 ?_
      rw [hws, hR1.1, wrn (by omega : p < 2147483648), wrn (by omega : dS D < 2147483648)]
      refine ⟨fun a => ⟨fun b => yes _ ?_, fun b => by omega⟩, fun a => no _ ?_⟩
      · unfold dGoes
        rw [if_neg c1, if_neg (by omega), if_neg (by omega), decide_eq_true (by omega)]
      · unfold dGoes
        rw [if_neg c1]
        by_cases z2 : dSc D k = -2
        · rw [if_pos z2, decide_eq_false (by omega)]
        rw [if_neg z2]
        by_cases z3 : dSc D k = -3
        · rw [if_pos z3, decide_eq_false (by omega)]
        rw [if_neg z3, decide_eq_false (by omega)]
    have g87 : ¬ dSc D k = -1 → ¬ (dSc D k = -2 ∧ p < dS D) → Go sc d mt_223 87 [vr 1835, vi (S : Int), vi (p : Int), vi (q : Int), vi (l : Int), vi ((((S * 5 + p) * 3 + q) * 2 + l : Nat) : Int), vi ((msk k (fun k => dGoes D k p && decide (¬ wr (cval D k S p q l) = 0)) : Nat) : Int), vi (k : Int), vi (dSc D k), v9] [] (z_cfg t, I1, J) Q := by
      intro c1 c2
      refine b223_87 ?_
      rw [hws, hR1.1, wrn (by omega : p < 2147483648), wrn (by omega : dS D < 2147483648)]
      refine ⟨fun a => ⟨fun b => yes _ ?_, fun b => g102 c1 c2 (by omega)⟩, fun a => g102 c1 c2 (by omega)⟩
      unfold dGoes
      rw [if_neg c1, if_neg (by omega), if_pos a, decide_eq_true (by omega)]
    refine ⟨fun _ => ⟨⟨by omega, by omega⟩, fun a => yes _ ?_, fun a => ⟨fun b => ⟨fun c => yes _ ?_, fun c => g87 a (by omega)⟩, fun b => g87 a (by omega)⟩⟩, fun c => by omega⟩
    · unfold dGoes
      rw [if_pos a]
    · unfold dGoes
      rw [if_neg a, if_pos b, decide_eq_true (by omega)]
theorem k223 {x1 x2 x3 x4 : Int} {S p q l : Nat} (e1 : x1 = S) (e2 : x2 = p) (e3 : x3 = q) (e4 : x4 = l) (hd : 3 ≤ d) (hV : RV I D ho lo) (hS : S ≤ dAll D) (hp : p ≤ dS D) (hq : q ≤ 2) (hl : l ≤ 1) (h : ∀ I', FR I I' → RV I' D ho lo → Q (.inl (some (vi (dBarR D S p q l)))) (z_cfg t, I', J)) : Go sc d mt_223 0 [vr 1835, vi x1, vi x2, vi x3, vi x4, vn, vn, vn, vn, vn] [] (z_cfg t, I, J) Q := by
  subst e1 e2 e3 e4
  have hD := hV.2.2
  have hSS := hD.1
  have hA := dAll_lt hD
  refine b223_0 ?_
  have eix : ((((S : Int) * 5 + (p : Int)) * 3 + (q : Int)) * 2) + (l : Int) = ((((S * 5 + p) * 3 + q) * 2 + l : Nat) : Int) := by omega
  rw [eix, wrn (by omega), Int.toNat_natCast]
  unfold dBarR at h
  refine ⟨fun c => ?_, fun c => ⟨⟨by omega, by omega⟩, fun c2 => ?_, fun c2 => ?_⟩⟩
  · rw [if_pos (by omega)] at h
    exact h I (FR.rf I) hV
  · rw [if_neg (by omega)] at h
    rcases hV.2.1 S p q l (by omega) hS hp hq hl with z | z
    · rw [z] at c2; exact absurd c2 (by decide)
    · rw [z, show (((dBar0 D S p q l + 1 : Nat) : Int) - 1) = (dBar0 D S p q l : Int) by omega]
      exact h I (FR.rf I) hV
  · rw [if_neg (by omega)] at h
    exact k223loop hd hV (by omega) hS hp hq hl h (dL D) 0 I vn vn (by omega) (fun a _ => rfl)
end
