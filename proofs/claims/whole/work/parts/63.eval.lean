/-! ===== a law's value ===== -/
theorem wrn {n : Nat} (h : n < 2147483648) : wr (n : Int) = (n : Int) := wr_id ⟨by omega, by omega⟩
def dRo (D : tD) (i : Nat) : Nat := if 0 < dMi D i then 1 else 0
def RW (I : Nat → Nat → Int) (D : tD) : Prop := ∀ S, S ≤ dAll D → I 916 S = sm (dT D) (fun _ => 1) S ∧ I 948 S = sm (dT D) (dRo D) S ∧ I 980 S = sm (dT D) (dWt D) S ∧ I 1012 S = mx (dT D) (dMi D) S
def cop (D : tD) (S p nb l : Nat) (c : Int) : Int := if c = 1100 then sm (dT D) (fun _ => 1) S else if c = 1101 then sm (dT D) (dWt D) S else if c = 1102 then sm (dT D) (dRo D) S else if c = 1103 then nb else if c = 1104 then l else if c = 1105 then p else if c < 1000 then c else ((S.testBit (c - 1000).toNat).toNat : Int)
def cbin (c x y : Int) : Int := if c = 1200 then (if wr x = 0 ∧ wr y = 0 then 0 else 1) else if c = 1201 then (if wr x = 0 ∨ wr y = 0 then 0 else 1) else if c = 1202 then (if wr x < wr y then 1 else 0) else if c = 1203 then (if wr x = wr y then 1 else 0) else if c = 1204 then x + y else if c = 1205 then x - y else if c = 1206 then x * y else (if wr y = 0 then 0 else Int.tdiv (wr x) (wr y))
def cst (f : Int → Int) (st : List Int) (c : Int) : List Int := if c < 1200 then f c :: st else if c = 1208 then (match st with
    | x :: r => (if wr x = 0 then 1 else 0) :: r
    | [] => []) else (match st with
    | y :: x :: r => cbin c x y :: r
    | st => st)
/-- the value of code -/
def cev (f : Int → Int) (cs : List Int) (st : List Int) : Int := (cs.foldl (cst f) st).headD 0
theorem cOk_in {n : Nat} {c : Int} (hn : n ≤ 8) (h : cOk n c) : 0 ≤ c ∧ c ≤ 1208 := by
  unfold cOk at h
  omega
section
variable {sc : mS} {d : Nat} {t : zT} {I J : Nat → Nat → Int} {Q : zR → zW → Prop} {D : tD}
theorem k36 {x1 x2 x3 x4 x5 c : Int} {S p nb l : Nat} (e1 : x1 = c) (e2 : x2 = S) (e3 : x3 = p) (e4 : x4 = nb) (e5 : x5 = l) (hc : cOk (dT D) c) (hc2 : c < 1200) (hD : dOk D) (hS : S ≤ dAll D) (hR : RW I D) (h : Q (.inl (some (vi (cop D S p nb l c)))) (z_cfg t, I, J)) : Go sc d mt_36 0 [vr 839, vi x1, vi x2, vi x3, vi x4, vi x5] [] (z_cfg t, I, J) Q := by
  rw [e1, e2, e3, e4, e5]
  have hA := dAll_lt hD
  have e : zand (S : Int) 255 = (S : Int) := by
    rw [show (255 : Int) = ((255 : Nat) : Int) from rfl, zandm 255 8 rfl (by omega) (by omega), Nat.mod_eq_of_lt (by omega)]
  have hn := hD.2.1
  have hcr := cOk_in hn hc
  obtain ⟨g1, g2, g3, g4⟩ := hR S hS
  refine b36_0 ?_
  rw [e]
  simp only [Int.toNat_natCast, g1, g2, g3]
  unfold cop at h
  refine ⟨⟨by omega, by omega⟩, ⟨fun q => ⟨⟨by omega, by omega⟩, ?_⟩, fun q => ⟨⟨by omega, by omega⟩, ?_⟩, fun q => ⟨⟨by omega, by omega⟩, ?_⟩, fun q => ?_, fun q => ?_, fun q => ?_, trivial⟩, fun q => ⟨fun q2 => ?_, fun q2 => ?_⟩⟩
  · rw [if_pos q] at h; exact h
  · rw [if_neg (by omega), if_pos q] at h; exact h
  · rw [if_neg (by omega), if_neg (by omega), if_pos q] at h; exact h
  · rw [if_neg (by omega), if_neg (by omega), if_neg (by omega), if_pos q] at h; exact h
  · rw [if_neg (by omega), if_neg (by omega), if_neg (by omega), if_neg (by omega), if_pos q] at h; exact h
  · rw [if_neg (by omega), if_neg (by omega), if_neg (by omega), if_neg (by omega), if_neg (by omega), if_pos q] at h; exact h
  · rw [if_neg (by omega), if_neg (by omega), if_neg (by omega), if_neg (by omega), if_neg (by omega), if_neg (by omega), if_pos q2] at h; exact h
  · rw [if_neg (by omega), if_neg (by omega), if_neg (by omega), if_neg (by omega), if_neg (by omega), if_neg (by omega), if_neg q2] at h
    have hk : (c - 1000).toNat < 8 := by unfold cOk at hc; omega
    rw [show c - 1000 = (((c - 1000).toNat : Nat) : Int) by omega, zbit (by omega) (by omega)]
    exact h
theorem k37 {x0 x1 x2 c x y : Int} (e0 : x0 = c) (e1 : x1 = x) (e2 : x2 = y) (hc : 1200 ≤ c ∧ c ≤ 1207) (h : Q (.inl (some (vi (cbin c x y)))) (z_cfg t, I, J)) : Go sc d mt_37 0 [vi x0, vi x1, vi x2] [] (z_cfg t, I, J) Q := by
  rw [e0, e1, e2]
  refine b37_0 ?_
  unfold cbin at h
  refine ⟨⟨by omega, by omega⟩, ⟨fun q => ⟨fun a => ⟨fun b => ?_, fun b => ?_⟩, fun a => ?_⟩, fun q => ⟨fun a => ?_, fun a => ⟨fun b => ?_, fun b => ?_⟩⟩, fun q => ⟨fun a => ?_, fun a => ?_⟩, fun q => ⟨fun a => ?_, fun a => ?_⟩, fun q => ?_, fun q => ?_, fun q => ?_, trivial⟩, fun q => ⟨fun a => ?_, fun a => ⟨a, ?_⟩⟩⟩
  · rw [if_pos q, if_pos ⟨a, b⟩] at h; exact h
  · rw [if_pos q, if_neg (fun z => b z.2)] at h; exact h
  · rw [if_pos q, if_neg (fun z => a z.1)] at h; exact h
  · rw [if_neg (by omega), if_pos q, if_pos (Or.inl a)] at h; exact h
  · rw [if_neg (by omega), if_pos q, if_pos (Or.inr b)] at h; exact h
  · rw [if_neg (by omega), if_pos q, if_neg (fun z => z.elim a b)] at h; exact h
  · rw [if_neg (by omega), if_neg (by omega), if_pos q, if_pos a] at h; exact h
  · rw [if_neg (by omega), if_neg (by omega), if_pos q, if_neg a] at h; exact h
  · rw [if_neg (by omega), if_neg (by omega), if_neg (by omega), if_pos q, if_pos a] at h; exact h
  · rw [if_neg (by omega), if_neg (by omega), if_neg (by omega), if_pos q, if_neg a] at h; exact h
  · rw [if_neg (by omega), if_neg (by omega), if_neg (by omega), if_neg (by omega), if_pos q] at h; exact h
  · rw [if_neg (by omega), if_neg (by omega), if_neg (by omega), if_neg (by omega), if_neg (by omega), if_pos q] at h; exact h
  · rw [if_neg (by omega), if_neg (by omega), if_neg (by omega), if_neg (by omega), if_neg (by omega), if_neg (by omega), if_pos q] at h; exact h
  · rw [if_neg (by omega), if_neg (by omega), if_neg (by omega), if_neg (by omega), if_neg (by omega), if_neg (by omega), if_neg (by omega), if_pos a] at h; exact h
  · rw [if_neg (by omega), if_neg (by omega), if_neg (by omega), if_neg (by omega), if_neg (by omega), if_neg (by omega), if_neg (by omega), if_neg a] at h; exact h
/-- a row holds a stack, its top first in the list -/
def arr (f : Nat → Int) (st : List Int) : Prop := ∀ i, i < st.length → f i = st.getD (st.length - 1 - i) 0
theorem arr_push {f : Nat → Int} {st : List Int} {v : Int} (h : arr f st) : arr (z_row f st.length v) (v :: st) := by
  intro i hi
  unfold z_row
  rw [List.length_cons] at hi ⊢
  by_cases q : i = st.length
  · rw [if_pos q, q, show st.length + 1 - 1 - st.length = 0 by omega]
    rfl
  · rw [if_neg q, h i (by omega), show st.length + 1 - 1 - i = (st.length - 1 - i) + 1 by omega]
    rfl
theorem arr_top {f : Nat → Int} {x : Int} {r : List Int} (h : arr f (x :: r)) : f r.length = x := by
  have := h r.length (by simp)
  rw [this, List.length_cons, show r.length + 1 - 1 - r.length = 0 by omega]
  rfl
theorem arr_tl {f : Nat → Int} {x : Int} {r : List Int} (h : arr f (x :: r)) : arr f r := by
  intro i hi
  rw [h i (by rw [List.length_cons]; omega), List.length_cons, show r.length + 1 - 1 - i = (r.length - 1 - i) + 1 by omega]
  rfl
theorem zu_row (I : Nat → Nat → Int) (a k : Nat) (v : Int) : z_u I a k v a = z_row (I a) k v := by
  unfold z_u
  rw [if_pos rfl]
theorem zmf_lt (b : Bool) (k : Nat) : z_mf b k < 800 := by
  unfold z_mf
  cases b
  · show List.getD _ k 0 < 800
    rw [List.getD_eq_getElem?_getD]
    cases h : ([0, 0, 148, 180, 212, 0, 244, 276, 308, 0, 0, 340, 0, 372, 404, 436, 0] : List Nat)[k]? with
    | none => decide
    | some v => exact (show ∀ x ∈ ([0, 0, 148, 180, 212, 0, 244, 276, 308, 0, 0, 340, 0, 372, 404, 436, 0] : List Nat), x < 800 by decide) v (List.mem_of_getElem? h)
  · show List.getD _ k 0 < 800
    rw [List.getD_eq_getElem?_getD]
    cases h : ([0, 0, 500, 532, 564, 0, 596, 628, 660, 0, 0, 692, 0, 724, 756, 788, 0] : List Nat)[k]? with
    | none => decide
    | some v => exact (show ∀ x ∈ ([0, 0, 500, 532, 564, 0, 596, 628, 660, 0, 0, 692, 0, 724, 756, 788, 0] : List Nat), x < 800 by decide) v (List.mem_of_getElem? h)
theorem zmd_lt (b : Bool) : z_md b < 800 := by cases b <;> decide
theorem k35loop {S p nb l : Nat} {x1 : Int} {e : Nat} {V : Int} (hd : 1 ≤ d) (hD : dOk D) (hS : S ≤ dAll D) (he : e ≤ 700) (hR : RW I D)
    (h : ∀ (I' : Nat → Nat → Int), (∀ a, ¬ a = 1044 → I' a = I a) → Q (.inl (some (vi V))) (z_cfg t, I', J)) :
    ∀ (cs : List Int) (j : Nat) (st : List Int) (I' : Nat → Nat → Int) (v9 : zV), (∀ a, ¬ a = 1044 → I' a = I a) → (∀ (i : Nat) (c : Int), cs[i]? = some c → I (z_mf (t_rb t) 15) (j + i) = c) → arr (I' 1044) st → cdep cs st.length = some 1 → (∀ c ∈ cs, cOk (dT D) c) → j + cs.length = e → st.length ≤ 64 → V = cev (cop D S p nb l) cs st →
      Go sc d mt_35 49 [vr 839, vi x1, vi (S : Int), vi (p : Int), vi (nb : Int), vi (l : Int), vi (e : Int), vi (st.length : Int), vi (j : Int), v9] [] (z_cfg t, I', J) Q := by
  have hA := dAll_lt hD
  have hn := hD.2.1
  have hmf := zmf_lt (t_rb t) 15
  intro cs
  induction cs with
  | nil =>
    intro j st I' v9 hF hco ha hdp hok hj hst hV
    have hl : st.length = 1 := by
      have : some st.length = some 1 := hdp
      exact Option.some.inj this
    obtain ⟨x, rfl⟩ : ∃ x, st = [x] := by
      match st, hl with
      | [x], _ => exact ⟨x, rfl⟩
    refine b35_49 ?_
    simp only [List.length_nil] at hj
    rw [wrn (by omega), wrn (by omega)]
    refine ⟨fun c => by omega, fun _ => ?_⟩
    have e0 : I' 1044 0 = x := arr_top (r := []) ha
    rw [e0]
    have : V = x := hV
    rw [← this]
    exact h I' hF
  | cons c cs ih =>
    intro j st I' v9 hF hco ha hdp hok hj hst hV
    have hc := hok c List.mem_cons_self
    have hcr := cOk_in hn hc
    have hok2 : ∀ c ∈ cs, cOk (dT D) c := fun q hq => hok q (List.mem_cons_of_mem _ hq)
    simp only [List.length_cons] at hj
    have e0 : I' (z_mf (t_rb t) 15) ((j : Int)).toNat = c := by
      rw [hF _ (by omega), Int.toNat_natCast]
      exact hco 0 c rfl
    have hco2 : ∀ (i : Nat) (q : Int), cs[i]? = some q → I (z_mf (t_rb t) 15) (j + 1 + i) = q := fun i q hq => by
      rw [show j + 1 + i = j + (i + 1) by omega]
      exact hco (i + 1) q (by simpa using hq)
    have hR' : RW I' D := fun S hS => by
      rw [hF 916 (by decide), hF 948 (by decide), hF 980 (by decide), hF 1012 (by decide)]
      exact hR S hS
    have hwc : wr c = c := wr_id ⟨by omega, by omega⟩
    have next : ∀ (st2 : List Int) (I2 : Nat → Nat → Int) (x9 : Int), (∀ a, ¬ a = 1044 → I2 a = I a) → arr (I2 1044) st2 → cdep cs st2.length = some 1 → st2.length ≤ 64 → V = cev (cop D S p nb l) cs st2 → Go sc d mt_35 189 [vr 839, vi x1, vi (S : Int), vi (p : Int), vi (nb : Int), vi (l : Int), vi (e : Int), vi (st2.length : Int), vi (j : Int), vi x9] [] (z_cfg t, I2, J) Q := by
      intro st2 I2 x9 hF2 ha2 hdp2 hst2 hV2
      refine b35_189 ?_
      exact ih (j + 1) st2 I2 (vi x9) hF2 hco2 ha2 hdp2 hok2 (by omega) hst2 hV2
    have upd : ∀ (k : Nat) (v : Int), ∀ a, ¬ a = 1044 → z_u I' 1044 k v a = I a := fun k v a ha => by
      rw [zu_ne ha]
      exact hF a ha
    refine b35_49 ?_
    rw [e0, hwc, wrn (by omega : j < 2147483648), wrn (by omega : e < 2147483648), wrn (by omega : st.length < 2147483648)]
    refine ⟨fun _ => ⟨⟨by omega, by omega⟩, fun hlt => ⟨fun hlt2 => ?_, fun q => ?_⟩, fun hge => ?_⟩, fun q => by omega⟩
    · -- an operand
      refine c36 hd (fun d' _ => k36 rfl rfl rfl rfl rfl hc hlt hD hS hR' ?_)
      refine b35_101 ⟨⟨by omega, by omega⟩, ?_⟩
      rw [Int.toNat_natCast]
      have hd2 : cdep cs (st.length + 1) = some 1 := by
        have z := hdp
        unfold cdep at z
        rw [if_pos hlt, if_pos (by omega)] at z
        exact z
      refine next (cop D S p nb l c :: st) _ c (upd _ _) ?_ hd2 (by simp; omega) ?_
      · rw [zu_row]
        exact arr_push ha
      · rw [hV]
        unfold cev
        rw [List.foldl_cons]
        rw [show cst (cop D S p nb l) st c = cop D S p nb l c :: st from by unfold cst; rw [if_pos hlt]]
    · exfalso
      have z := hdp
      unfold cdep at z
      rw [if_pos hlt, if_neg (by omega)] at z
      cases z
    · refine b35_108 ?_
      rw [hwc, wrn (by omega : st.length < 2147483648)]
      refine ⟨fun hnot => ?_, fun hnot => ?_⟩
      · -- not
        have z := hdp
        unfold cdep at z
        rw [if_neg hge, if_pos hnot] at z
        split at z
        · rename_i hl1
          obtain ⟨x, r, rfl⟩ : ∃ x r, st = x :: r := by
            cases st with
            | nil => simp at hl1
            | cons x r => exact ⟨x, r, rfl⟩
          simp only [List.length_cons] at hst z ⊢
          refine ⟨fun _ => ?_, fun q => by omega⟩
          have et : I' 1044 (((r.length + 1 : Nat) : Int) - 1).toNat = x := by
            rw [show (((r.length + 1 : Nat) : Int) - 1).toNat = r.length by omega]
            exact arr_top ha
          rw [et]
          have fin : ∀ v : Int, v = (if wr x = 0 then 1 else 0) → Go sc d mt_35 146 [vr 839, vi x1, vi (S : Int), vi (p : Int), vi (nb : Int), vi (l : Int), vi (e : Int), vi ((r.length + 1 : Nat) : Int), vi (j : Int), vi c] [vi v, vi (((r.length + 1 : Nat) : Int) - 1), vr 1044] (z_cfg t, I', J) Q := by
            intro v hv
            refine b35_146 ⟨⟨by omega, by omega⟩, ?_⟩
            rw [show (((r.length + 1 : Nat) : Int) - 1).toNat = r.length by omega]
            refine next (v :: r) _ c (upd _ _) ?_ z (by simp; omega) ?_
            · rw [zu_row]
              exact arr_push (arr_tl ha)
            · rw [hV, hv]
              unfold cev
              rw [List.foldl_cons]
              rw [show cst (cop D S p nb l) (x :: r) c = (if wr x = 0 then 1 else 0) :: r from by unfold cst; rw [if_neg hge, if_pos hnot]]
          refine ⟨⟨by omega, by omega⟩, fun q => fin _ (by rw [if_pos q]), fun q => fin _ (by rw [if_neg q])⟩
        · cases z
      · -- an operator of two
        have z := hdp
        unfold cdep at z
        rw [if_neg hge, if_neg hnot] at z
        split at z
        · rename_i hl2
          obtain ⟨y, x, r, rfl⟩ : ∃ y x r, st = y :: x :: r := by
            cases st with
            | nil => simp at hl2
            | cons y r =>
              cases r with
              | nil => simp at hl2
              | cons x r => exact ⟨y, x, r, rfl⟩
          refine b35_150 ?_
          simp only [List.length_cons] at hst z ⊢
          rw [wrn (by omega : r.length + 1 + 1 < 2147483648)]
          refine ⟨fun _ => ⟨⟨by omega, by omega⟩, ⟨by omega, by omega⟩, ?_⟩, fun q => by omega⟩
          have e1 : I' 1044 (((r.length + 1 + 1 : Nat) : Int) + (-1)).toNat = y := by
            rw [show (((r.length + 1 + 1 : Nat) : Int) + (-1)).toNat = (x :: r).length by simp; omega]
            exact arr_top ha
          have e2 : I' 1044 ((((r.length + 1 + 1 : Nat) : Int) + (-1)) - 1).toNat = x := by
            rw [show ((((r.length + 1 + 1 : Nat) : Int) + (-1)) - 1).toNat = r.length by omega]
            exact arr_top (arr_tl ha)
          rw [e1, e2]
          refine c37 hd (fun d' _ => k37 rfl rfl rfl (by unfold cOk at hc; omega) ?_)
          refine b35_188 ⟨⟨by omega, by omega⟩, ?_⟩
          rw [show ((((r.length + 1 + 1 : Nat) : Int) + (-1)) - 1).toNat = r.length by omega, show (((r.length + 1 + 1 : Nat) : Int) + (-1)) = ((cbin c x y :: r).length : Int) by simp; omega]
          refine next (cbin c x y :: r) _ c (upd _ _) ?_ (by simpa using z) (by simp; omega) ?_
          · rw [zu_row]
            exact arr_push (arr_tl (arr_tl ha))
          · rw [hV]
            unfold cev
            rw [List.foldl_cons]
            rw [show cst (cop D S p nb l) (y :: x :: r) c = cbin c x y :: r from by unfold cst; rw [if_neg hge, if_neg hnot]]
        · cases z
/-- a law's value over a group -/
def cval (D : tD) (k S p nb l : Nat) : Int := cev (cop D S p nb l) (dCo D k) []
theorem k35 {x1 x2 x3 x4 x5 : Int} {k S p nb l : Nat} (e1 : x1 = k) (e2 : x2 = S) (e3 : x3 = p) (e4 : x4 = nb) (e5 : x5 = l) (hd : 1 ≤ d) (hC : CD (t_rb t) I D) (hD : dOk D) (hk : k < dL D) (hS : S ≤ dAll D) (hR : RW I D)
    (h : ∀ (I' : Nat → Nat → Int), (∀ a, ¬ a = 1044 → I' a = I a) → Q (.inl (some (vi (cval D k S p nb l)))) (z_cfg t, I', J)) : Go sc d mt_35 0 [vr 839, vi x1, vi x2, vi x3, vi x4, vi x5, vn, vn, vn, vn] [] (z_cfg t, I, J) Q := by
  subst e1 e2 e3 e4 e5
  have hL := hD.2.2.2.1
  obtain ⟨st, s1, s2, s3⟩ := hC.2.2.2.2.2.2.2.2.2
  obtain ⟨g1, g2⟩ := s2 k hk
  have g3 := s3 (k + 1) (by omega)
  have g4 := s3 k (by omega)
  have a1 : I (z_mf (t_rb t) 14) ((k : Int) + 1).toNat = st (k + 1) := by
    rw [show ((k : Int) + 1).toNat = k + 1 by omega]
    exact s1 (k + 1) (by omega)
  have a2 : I (z_mf (t_rb t) 14) ((k : Int)).toNat = st k := by
    rw [Int.toNat_natCast]
    exact s1 k (by omega)
  obtain ⟨-, q2, q3⟩ := hD.2.2.2.2.2.2.2.2 k hk
  refine b35_0 ?_
  rw [wrn (by omega : k < 2147483648), a1, a2]
  refine ⟨fun c => by omega, fun _ => ⟨fun _ => ⟨⟨by omega, by omega⟩, ⟨⟨by omega, by omega⟩, ⟨by decide, by decide⟩⟩, ⟨by omega, by omega⟩, ⟨⟨by omega, by omega⟩, ⟨by decide, by decide⟩⟩, ?_⟩, fun c => by omega⟩⟩
  rw [if_neg (by omega), if_neg (by omega)]
  exact k35loop hd hD hS g3 hR h (dCo D k) (st k) [] I vn (fun a _ => rfl) g2 (fun i hi => by simp at hi) q2 q3 (by omega) (by simp) rfl
end
