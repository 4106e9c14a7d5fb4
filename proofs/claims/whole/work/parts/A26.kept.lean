/-! ===== the way that is kept, asked: pure, the class, the reference ===== -/
def LO (D : tD) (l : List (Nat × Nat × Nat)) : Prop := l.length ≤ 2000 ∧ ∀ (i : Nat) (c : Nat × Nat × Nat), l[i]? = some c → c.1 < dB D ∧ c.2.1 < dS D ∧ c.2.2 ≤ dAll D
/-- the i-th crossing -/
def lc (l : List (Nat × Nat × Nat)) (i : Nat) : Nat × Nat × Nat := (l[i]?).getD (0, 0, 0)
theorem lc_some {l : List (Nat × Nat × Nat)} {i : Nat} (h : i < l.length) : l[i]? = some (lc l i) := by
  unfold lc
  rw [List.getElem?_eq_getElem h]
  rfl
def wayA (D : tD) (l : List (Nat × Nat × Nat)) (x1 x2 : Int) : Int := if x1 = -1 then (if x2 = 0 then ((l.length : Nat) : Int) else ((mins D l : Nat) : Int)) else if x2 = 0 then ((lc l x1.toNat).1 : Int) else if x2 = 1 then ((lc l x1.toNat).2.1 : Int) else if x2 = 2 then ((lc l x1.toNat).2.2 : Int) else ((mx (dT D) (dMi D) (lc l x1.toNat).2.2 : Nat) : Int)
def wayOk (l : List (Nat × Nat × Nat)) (x1 x2 : Int) : Prop := (-1 ≤ x1 ∧ x1 < (l.length : Int)) ∧ (0 ≤ x2 ∧ x2 ≤ 3) ∧ (0 ≤ x1 ∨ x2 = 0 ∨ x2 = 3)
/-- how often carried, of the first n -/
def cCar (l : List (Nat × Nat × Nat)) (i n : Nat) : Nat := match n with
  | 0 => 0
  | n + 1 => cCar l i n + ((lc l n).2.2.testBit i).toNat
/-- how often alone, behind the first n -/
def cAln (D : tD) (l : List (Nat × Nat × Nat)) (i n : Nat) : Nat := match n with
  | 0 => 0
  | n + 1 => cAln D l i n + (decide (lash (aft D l (n + 1)) (lshore (aft D l (n + 1)) i) (dT D) = 2 ^ i)).toNat
theorem cCar_le (l : List (Nat × Nat × Nat)) (i : Nat) : ∀ n, cCar l i n ≤ n := by
  intro n
  induction n with
  | zero => exact Nat.le_refl _
  | succ n ih =>
    have := Bool.toNat_le ((lc l n).2.2.testBit i)
    show cCar l i n + _ ≤ n + 1
    omega
theorem cAln_le (D : tD) (l : List (Nat × Nat × Nat)) (i : Nat) : ∀ n, cAln D l i n ≤ n := by
  intro n
  induction n with
  | zero => exact Nat.le_refl _
  | succ n ih =>
    have := Bool.toNat_le (decide (lash (aft D l (n + 1)) (lshore (aft D l (n + 1)) i) (dT D) = 2 ^ i))
    show cAln D l i n + _ ≤ n + 1
    omega
section
variable {D : tD} {l : List (Nat × Nat × Nat)}
theorem aft_0 : aft D l 0 = dStart D := rfl
theorem aft_s {n : Nat} (h : n < l.length) : aft D l (n + 1) = dAfter D (aft D l n) (lc l n).1 (lc l n).2.1 (lc l n).2.2 := by
  unfold aft
  have : l.take (n + 1) = l.take n ++ [lc l n] := by
    rw [List.take_succ, lc_some h]
    rfl
  rw [this, List.foldl_append]
  rfl
theorem aft_sh {n i : Nat} (hD : dOk D) (hl : LO D l) (hi : i < 8) (hn : n < l.length) : lshore (aft D l (n + 1)) i = if (lc l n).2.2.testBit i then (lc l n).2.1 else lshore (aft D l n) i := by
  have h := hl.2 n _ (lc_some hn)
  have hA := dAll_lt hD
  have hB := hD.2.2.1
  have hS := hD.1
  rw [aft_s hn, af_shore (by omega) (by omega) (by omega) hi]
theorem aft_st {n : Nat} (hD : dOk D) (hl : LO D l) (hn : n ≤ l.length) : stOk D (aft D l n) := by
  induction n with
  | zero => exact start_ok hD
  | succ n ih =>
    have h := hl.2 n _ (lc_some (by omega))
    rw [aft_s (by omega)]
    exact stOk_af hD (ih (by omega)) h.1 h.2.1 h.2.2
theorem lash_sh {s s' p n : Nat} (hn : n ≤ 8) (h : ∀ i, i < 8 → lshore s i = lshore s' i) : lash s p n = lash s' p n := by
  unfold lash
  apply Nat.eq_of_testBit_eq
  intro i
  rw [msk_bit, msk_bit]
  by_cases c : i < n
  · rw [h i (by omega)]
  · rw [decide_eq_false c, Bool.false_and, Bool.false_and]
end
section
variable {sc : mS} {d : Nat} {t : zT} {I J : Nat → Nat → Int} {Q : zR → zW → Prop} {D : tD} {l : List (Nat × Nat × Nat)}
theorem k154 {x1 : Int} {i : Nat} (e1 : x1 = i) (hK : KC I D l) (hl : LO D l) (hi : i < l.length) (h : Q (.inl (some (vi ((c3 (lc l i) : Nat) : Int)))) (z_cfg t, I, J)) : Go sc d mt_154 0 [vr 1672, vi x1] [] (z_cfg t, I, J) Q := by
  subst e1
  have h2 := hl.1
  refine b154_0 ?_
  rw [hK.1, Int.toNat_natCast, hK.2.2 i _ (lc_some hi)]
  exact ⟨⟨by omega, by omega⟩, fun z => by omega, fun _ => ⟨⟨by omega, by omega⟩, fun _ => ⟨fun _ => h, fun z => by omega⟩, fun z => by omega⟩⟩
theorem c3_lt {c : Nat × Nat × Nat} (hD : dOk D) (h : c.1 < dB D ∧ c.2.1 < dS D ∧ c.2.2 ≤ dAll D) : c.1 < 2 ∧ c.2.1 < 4 ∧ c.2.2 < 256 ∧ c3 c < 2048 := by
  have hA := dAll_lt hD
  have hB := hD.2.2.1
  have hS := hD.1
  have e : c3 c = (c.1 * 4 + c.2.1) * 256 + c.2.2 := rfl
  omega
theorem c3_bit {c : Nat × Nat × Nat} {i : Nat} (h : c.2.2 < 256) (hi : i < 8) : (c3 c).testBit i = c.2.2.testBit i := by
  have e : c3 c = 2 ^ 8 * (c.1 * 4 + c.2.1) + c.2.2 := by
    show (c.1 * 4 + c.2.1) * 256 + c.2.2 = _
    omega
  rw [e, Nat.testBit_two_pow_mul_add _ h, if_pos hi]
theorem c3_sh {c : Nat × Nat × Nat} (h1 : c.1 < 2) (h2 : c.2.1 < 4) (h3 : c.2.2 < 256) : zand (zshr ((c3 c : Nat) : Int) 8) 3 = (c.2.1 : Int) ∧ zand (zshr ((c3 c : Nat) : Int) 10) 1 = (c.1 : Int) ∧ zand ((c3 c : Nat) : Int) 255 = (c.2.2 : Int) := by
  have e : c3 c = (c.1 * 4 + c.2.1) * 256 + c.2.2 := rfl
  refine ⟨?_, ?_, ?_⟩
  · rw [show (8 : Int) = ((8 : Nat) : Int) from rfl, zshr_n (by omega) (by omega), show (3 : Int) = ((3 : Nat) : Int) from rfl, zandm 3 2 rfl (by omega) (by omega), e]
    congr 1
    omega
  · rw [show (10 : Int) = ((10 : Nat) : Int) from rfl, zshr_n (by omega) (by omega), zand1 (by omega), e]
    congr 1
    omega
  · rw [show (255 : Int) = ((255 : Nat) : Int) from rfl, zandm 255 8 rfl (by omega) (by omega), e]
    congr 1
    omega
theorem k159 {x1 x2 : Int} {i k : Nat} (e1 : x1 = i) (e2 : x2 = k) (hd : 1 ≤ d) (hK : KC I D l) (hD : dOk D) (hl : LO D l) (hi : i < l.length) (hk : k < 8) (h : Q (.inl (some (vi ((((lc l i).2.2.testBit k).toNat : Nat) : Int)))) (z_cfg t, I, J)) : Go sc d mt_159 0 [vr 1672, vi x1, vi x2] [] (z_cfg t, I, J) Q := by
  subst e1 e2
  have hc := c3_lt hD (hl.2 i _ (lc_some hi))
  refine b159_0 (c154 hd (fun d' _ => k154 rfl hK hl hi (b159_5 ?_)))
  rw [zbit (by omega) (by omega), c3_bit hc.2.2.1 hk]
  cases hb : (lc l i).2.2.testBit k with
  | false => rw [hb] at h; exact ⟨fun _ => h, fun z => absurd rfl z⟩
  | true => rw [hb] at h; exact ⟨fun z => absurd z (by decide), fun _ => h⟩
theorem k155 {x0 x1 : Int} {c : Nat × Nat × Nat} (e0 : x0 = c3 c) (h1 : c.1 < 2) (h2 : c.2.1 < 4) (h3 : c.2.2 < 256) (hx : inR x1) (h : Q (.inl (some (vi (if x1 = 0 then (c.1 : Int) else if x1 = 1 then (c.2.1 : Int) else (c.2.2 : Int))))) (z_cfg t, I, J)) : Go sc d mt_155 0 [vi x0, vi x1] [] (z_cfg t, I, J) Q := by
  subst e0
  obtain ⟨a, b, c'⟩ := c3_sh h1 h2 h3
  refine b155_0 ?_
  rw [a, b, c']
  refine ⟨hx, fun c1 => ?_, fun c1 => ⟨fun c2 => ?_, fun c2 => ?_⟩⟩
  · rw [if_pos c1] at h; exact h
  · rw [if_neg c1, if_pos c2] at h; exact h
  · rw [if_neg c1, if_neg c2] at h; exact h
theorem k158 {x1 x2 : Int} {n k : Nat} (e1 : x1 = n) (e2 : x2 = k) (hd : 2 ≤ d) (hK : KC I D l) (hD : dOk D) (hl : LO D l) (hn : n ≤ l.length) (hk : k < 8) (h : Q (.inl (some (vi ((lshore (aft D l n) k : Nat) : Int)))) (z_cfg t, I, J)) : Go sc d mt_158 0 [vr 1672, vi x1, vi x2, vn] [] (z_cfg t, I, J) Q := by
  subst e1 e2
  have hl2 := hl.1
  have loop : ∀ (m : Nat), m ≤ n → lshore (aft D l n) k = lshore (aft D l m) k → Go sc d mt_158 4 [vr 1672, vi (n : Int), vi (k : Int), vi ((m : Int) - 1)] [] (z_cfg t, I, J) Q := by
    intro m
    induction m with
    | zero =>
      intro _ he
      have e0 : lshore (aft D l 0) k = 0 := by
        rw [aft_0]
        exact (start_dg hD).1 k hk
      rw [he, e0] at h
      exact b158_4 ⟨⟨by omega, by omega⟩, fun _ => h, fun z => by omega⟩
    | succ m ih =>
      intro hm he
      have hml : m < l.length := by omega
      have hc := c3_lt hD (hl.2 m _ (lc_some hml))
      have e5 : (((m + 1 : Nat) : Int) - 1) = (m : Int) := by omega
      rw [e5]
      have hsh := aft_sh (i := k) hD hl hk hml
      refine b158_4 ⟨⟨by omega, by omega⟩, fun z => by omega, fun _ => ?_⟩
      refine c159 (by omega) (fun d' _ => k159 rfl rfl (by omega) hK hD hl hml hk (b158_14 ?_))
      cases hb : (lc l m).2.2.testBit k with
      | false =>
        rw [hb, if_neg (by decide)] at hsh
        refine ⟨⟨by decide, by decide⟩, fun _ => ?_, fun z => absurd rfl z⟩
        rw [show (m : Int) + (-1) = (m : Int) - 1 by omega]
        exact ih (by omega) (he.trans hsh)
      | true =>
        rw [hb, if_pos rfl] at hsh
        refine ⟨⟨by decide, by decide⟩, fun z => absurd z (by decide), fun _ => ?_⟩
        refine c154 (by omega) (fun d' _ => k154 rfl hK hl hml (b158_22 ?_))
        rw [(c3_sh hc.1 hc.2.1 hc.2.2.1).1, ← hsh, ← he]
        exact h
  exact b158_0 (loop n (Nat.le_refl _) rfl)
theorem k162 {x1 : Int} {k : Nat} (e1 : x1 = k) (hd : 2 ≤ d) (hK : KC I D l) (hD : dOk D) (hl : LO D l) (hk : k < 8) (h : Q (.inl (some (vi ((cCar l k l.length : Nat) : Int)))) (z_cfg t, I, J)) : Go sc d mt_162 0 [vr 1672, vi x1, vn, vn] [] (z_cfg t, I, J) Q := by
  subst e1
  have hl2 := hl.1
  have loop : ∀ (m i : Nat), i + m = l.length → Go sc d mt_162 4 [vr 1672, vi (k : Int), vi ((cCar l k i : Nat) : Int), vi (i : Int)] [] (z_cfg t, I, J) Q := by
    intro m
    induction m with
    | zero =>
      intro i hi
      have : i = l.length := by omega
      subst this
      refine b162_4 ?_
      rw [hK.1]
      exact ⟨⟨by omega, by omega⟩, ⟨by omega, by omega⟩, fun z => by omega, fun _ => h⟩
    | succ m ih =>
      intro i hi
      have hil : i < l.length := by omega
      refine b162_4 ?_
      rw [hK.1]
      refine ⟨⟨by omega, by omega⟩, ⟨by omega, by omega⟩, fun _ => ?_, fun z => by omega⟩
      refine c159 (by omega) (fun d' _ => k159 rfl rfl (by omega) hK hD hl hil hk (b162_18 ?_))
      have := ih (i + 1) (by omega)
      have es : cCar l k (i + 1) = cCar l k i + ((lc l i).2.2.testBit k).toNat := rfl
      rw [es] at this
      cases hb : (lc l i).2.2.testBit k with
      | false =>
        rw [hb] at this
        refine ⟨⟨by decide, by decide⟩, fun _ => b162_24 ?_, fun z => absurd rfl z⟩
        rw [show (i : Int) + 1 = ((i + 1 : Nat) : Int) by omega]
        exact this
      | true =>
        rw [hb] at this
        refine ⟨⟨by decide, by decide⟩, fun z => absurd z (by decide), fun _ => b162_24 ?_⟩
        rw [show (i : Int) + 1 = ((i + 1 : Nat) : Int) by omega, show ((cCar l k i : Nat) : Int) + 1 = ((cCar l k i + (true).toNat : Nat) : Int) by show _ = ((cCar l k i + 1 : Nat) : Int); omega]
        exact this
  exact b162_0 (loop l.length 0 (by omega))
theorem k163 {x1 x2 : Int} {k : Nat} (e1 : x1 = k) (e2 : x2 = dAll D) (hd : 1 ≤ d) (hK : KC I D l) (hD : dOk D) (hl : LO D l) (hk : k < dT D) (h : Q (.inl (some (vi ((cAln D l k l.length : Nat) : Int)))) (z_cfg t, I, J)) : Go sc d mt_163 0 [vr 1672, vi x1, vi x2, vn, vn, vn] [] (z_cfg t, I, J) Q := by
  subst e1 e2
  have hl2 := hl.1
  have h8 := hD.2.1
  have loop : ∀ (m i s : Nat), i + m = l.length → s < 4194304 → (∀ q, q < 8 → lshore s q = lshore (aft D l i) q) → Go sc d mt_163 8 [vr 1672, vi (k : Int), vi (dAll D : Int), vi (s : Int), vi ((cAln D l k i : Nat) : Int), vi (i : Int)] [] (z_cfg t, I, J) Q := by
    intro m
    induction m with
    | zero =>
      intro i s hi _ _
      have : i = l.length := by omega
      subst this
      refine b163_8 ?_
      rw [hK.1]
      exact ⟨⟨by omega, by omega⟩, ⟨by omega, by omega⟩, fun z => by omega, fun _ => h⟩
    | succ m ih =>
      intro i s hi hs hsh
      have hil : i < l.length := by omega
      have hc := c3_lt hD (hl.2 i _ (lc_some hil))
      have hz := c3_sh hc.1 hc.2.1 hc.2.2.1
      refine b163_8 ?_
      rw [hK.1]
      refine ⟨⟨by omega, by omega⟩, ⟨by omega, by omega⟩, fun _ => ?_, fun z => by omega⟩
      refine c154 (by omega) (fun d' _ => k154 rfl hK hl hil (b163_24 ?_))
      refine c154 (by omega) (fun d' _ => k154 rfl hK hl hil (b163_34 ?_))
      refine c41 (by omega) (fun d' _ => k41 (s := s) (S := (lc l i).2.2) (p := (lc l i).2.1) rfl hz.2.2 hz.1 hs hc.2.2.1 hc.2.1 (b163_42 ?_))
      have hs2 : lplaced s (lc l i).2.2 (lc l i).2.1 < 4194304 := lplaced_lt hs hc.2.2.1
      have hsh2 : ∀ q, q < 8 → lshore (lplaced s (lc l i).2.2 (lc l i).2.1) q = lshore (aft D l (i + 1)) q := fun q hq => by
        rw [lshore_placed hc.2.2.1 hc.2.1 hq, aft_sh hD hl hq hil, hsh q hq]
      refine c164 (by omega) (fun d' _ => k164 rfl rfl hs2 (by omega) (b163_49 ?_))
      refine c43 (by omega) (fun d' _ => k43 (n := dT D) rfl rfl rfl hs2 (lshore_lt _ _) h8 (b163_53 ?_))
      have el : lash (lplaced s (lc l i).2.2 (lc l i).2.1) (lshore (lplaced s (lc l i).2.2 (lc l i).2.1) k) (dT D) = lash (aft D l (i + 1)) (lshore (aft D l (i + 1)) k) (dT D) := by
        rw [hsh2 k (by omega)]
        exact lash_sh h8 hsh2
      have hll := lash_lt (aft D l (i + 1)) (lshore (aft D l (i + 1)) k) (dT D)
      have hp8 : 2 ^ dT D ≤ 2 ^ 8 := Nat.pow_le_pow_right (by decide) h8
      have e2k : zshl 1 (k : Int) = ((2 ^ k : Nat) : Int) := by
        have := zshl_n (x := 1) (k := k) (by omega) (by have := Nat.pow_le_pow_right (n := 2) (by decide) (show k ≤ 8 by omega); omega)
        rw [Nat.one_mul] at this
        exact this
      rw [el, e2k]
      have := ih (i + 1) _ (by omega) hs2 hsh2
      have es : cAln D l k (i + 1) = cAln D l k i + (decide (lash (aft D l (i + 1)) (lshore (aft D l (i + 1)) k) (dT D) = 2 ^ k)).toNat := rfl
      rw [es] at this
      refine ⟨⟨by omega, by omega⟩, fun c => b163_62 ?_, fun c => b163_62 ?_⟩
      · have c : lash (aft D l (i + 1)) (lshore (aft D l (i + 1)) k) (dT D) = 2 ^ k := by omega
        rw [decide_eq_true c] at this
        rw [show (i : Int) + 1 = ((i + 1 : Nat) : Int) by omega, show ((cAln D l k i : Nat) : Int) + 1 = ((cAln D l k i + (true).toNat : Nat) : Int) by show _ = ((cAln D l k i + 1 : Nat) : Int); omega]
        exact this
      · have c : ¬ lash (aft D l (i + 1)) (lshore (aft D l (i + 1)) k) (dT D) = 2 ^ k := by omega
        rw [decide_eq_false c] at this
        rw [show (i : Int) + 1 = ((i + 1 : Nat) : Int) by omega]
        exact this
  exact b163_0 (loop l.length 0 0 (by omega) (by decide) (fun q hq => by rw [lshore_0, aft_0]; exact ((start_dg hD).1 q hq).symm))
end
