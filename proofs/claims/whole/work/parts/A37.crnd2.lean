/-! ===== rounds, the class: addState, withinReach ===== -/
/-- depths and the queue -/
def QD (I : Nat → Nat → Int) (n : Nat) (q : Nat → Nat) (dp : Nat → Int) : Prop := I 1510 5 = n ∧ (∀ i, i < n → I 1588 i = (q i : Int) ∧ q i < 1024 ∧ ¬ dp (q i) = -1) ∧ (∀ s, s < 1024 → I 1556 s = dp s ∧ -1 ≤ dp s ∧ dp s ≤ 1024) ∧ ∀ i j, i < n → j < n → q i = q j → i = j
theorem QD.le {I : Nat → Nat → Int} {n : Nat} {q : Nat → Nat} {dp : Nat → Int} (h : QD I n q dp) : n ≤ 1024 := inj_le 1024 n q (fun i hi => (h.2.1 i hi).2.1) h.2.2.2
theorem QD.lt {I : Nat → Nat → Int} {n s : Nat} {q : Nat → Nat} {dp : Nat → Int} (h : QD I n q dp) (hs : s < 1024) (hd : dp s = -1) : n < 1024 := by
  refine inj_le 1024 (n + 1) (fun i => if i < n then q i else s) (fun i hi => ?_) (fun i j hi hj e => ?_)
  · show (if i < n then q i else s) < 1024
    split
    · exact (h.2.1 i (by omega)).2.1
    · exact hs
  · have e : (if i < n then q i else s) = (if j < n then q j else s) := e
    by_cases c1 : i < n <;> by_cases c2 : j < n
    · rw [if_pos c1, if_pos c2] at e
      exact h.2.2.2 i j c1 c2 e
    · rw [if_pos c1, if_neg c2] at e
      exact absurd (by rw [e]; exact hd) (h.2.1 i c1).2.2
    · rw [if_neg c1, if_pos c2] at e
      exact absurd (by rw [← e]; exact hd) (h.2.1 j c2).2.2
    · omega
def upI (f : Nat → Int) (k : Nat) (v : Int) : Nat → Int := fun i => if i = k then v else f i
/-- the things within a boat's reach -/
def rch (D : tD) (n b : Nat) : Nat := if dFlow D (n.testBit (8 + b)).toNat (1 - (n.testBit (8 + b)).toNat) = true then (if n.testBit (8 + b) = true then dAll D &&& n else ndiff (dAll D) n) else 0
section
variable {sc : mS} {d : Nat} {t : zT} {I J : Nat → Nat → Int} {Q : zR → zW → Prop} {D : tD}
theorem k80 {x1 x2 : Int} {s n : Nat} {q : Nat → Nat} {dp : Nat → Int} (e1 : x1 = s) (hx : 0 ≤ x2 ∧ x2 ≤ 1024) (hs : s < 1024) (hQ : QD I n q dp)
    (h1 : dp s = -1 → ∀ (I' : Nat → Nat → Int), (∀ a, ¬ a = 1556 → ¬ a = 1588 → ¬ a = 1510 → I' a = I a) → (∀ k, ¬ k = 5 → I' 1510 k = I 1510 k) → QD I' (n + 1) (upN q n s) (upI dp s x2) → Q (.inl none) (z_cfg t, I', J)) (h0 : ¬ dp s = -1 → Q (.inl none) (z_cfg t, I, J)) : Go sc d mt_80 0 [vr 1510, vi x1, vi x2] [] (z_cfg t, I, J) Q := by
  subst e1
  have hn := hQ.le
  have hds := hQ.2.2.1 s hs
  refine b80_0 ?_
  rw [Int.toNat_natCast, hds.1, hQ.1]
  refine ⟨⟨by omega, by omega⟩, fun z => by omega, fun _ => ⟨fun _ => ⟨⟨by omega, by omega⟩, fun c => ?_, fun c => h0 c⟩, fun z => by omega⟩⟩
  have hlt := hQ.lt hs c
  refine ⟨⟨by omega, by omega⟩, fun _ => ⟨⟨by omega, by omega⟩, ?_⟩, fun z => by omega⟩
  rw [Int.toNat_natCast]
  refine h1 c _ (fun a a1 a2 a3 => by rw [zu_ne a3, zu_ne a2, zu_ne a1]) (fun k hk => by rw [zu_nk hk, zu_ne (by decide : ¬ 1510 = 1588), zu_ne (by decide : ¬ 1510 = 1556)]) ⟨by rw [zu_same]; omega, fun i hi => ?_, fun y hy => ?_, fun i j hi hj e => ?_⟩
  · rw [zu_ne (by decide : ¬ 1588 = 1510), zu_at]
    by_cases z : i = n
    · rw [if_pos z, z, upN_at]
      exact ⟨rfl, hs, by unfold upI; rw [if_pos rfl]; omega⟩
    · rw [if_neg z, upN_ne z, zu_ne (by decide : ¬ 1588 = 1556)]
      have := hQ.2.1 i (by omega)
      refine ⟨this.1, this.2.1, ?_⟩
      unfold upI
      split
      · omega
      · exact this.2.2
  · rw [zu_ne (by decide : ¬ 1556 = 1510), zu_ne (by decide : ¬ 1556 = 1588), zu_at]
    unfold upI
    by_cases z : y = s
    · rw [if_pos z, if_pos z]; exact ⟨rfl, by omega, by omega⟩
    · rw [if_neg z, if_neg z]; exact hQ.2.2.1 y hy
  · have old : ∀ k, k < n → ¬ q k = s := fun k hk z => (hQ.2.1 k hk).2.2 (by rw [z]; exact c)
    by_cases z1 : i = n <;> by_cases z2 : j = n
    · omega
    · rw [z1, upN_at, upN_ne z2] at e
      exact absurd e.symm (old j (by omega))
    · rw [z2, upN_at, upN_ne z1] at e
      exact absurd e (old i (by omega))
    · rw [upN_ne z1, upN_ne z2] at e
      exact hQ.2.2.2 i j (by omega) (by omega) e
theorem k82 {x1 : Int} {b n : Nat} (e1 : x1 = b) (hb : b < 2) (hd : 1 ≤ d) (hC : CD (t_ob t) I D) (hD : dOk D) (hn : I 1510 6 = n) (hn2 : n < 1024) (h : Q (.inl (some (vi ((rch D n b : Nat) : Int)))) (z_cfg t, I, J)) : Go sc d mt_82 0 [vr 1510, vi x1, vn] [] (z_cfg t, I, J) Q := by
  subst e1
  have hA := dAll_lt hD
  unfold rch at h
  have ebit : zand (zshr (n : Int) (8 + (b : Int))) 1 = (((n.testBit (8 + b)).toNat : Nat) : Int) := by
    rw [show (8 : Int) + (b : Int) = ((8 + b : Nat) : Int) by omega, zbit (by omega) (by omega)]
  have hbl := Bool.toNat_le (n.testBit (8 + b))
  refine b82_0 ?_
  rw [hn, ebit]
  refine c50 hd (fun d' _ => k50 (i := (n.testBit (8 + b)).toNat) (j := 1 - (n.testBit (8 + b)).toNat) rfl (by omega) (by omega) (by omega) hC hD (b82_23 ?_))
  cases hf : dFlow D (n.testBit (8 + b)).toNat (1 - (n.testBit (8 + b)).toNat) with
  | false =>
    rw [hf, if_neg (by decide)] at h
    exact ⟨⟨by decide, by decide⟩, fun _ => h, fun z => absurd rfl z⟩
  | true =>
    rw [hf, if_pos rfl] at h
    refine ⟨⟨by decide, by decide⟩, fun z => absurd z (by decide), fun _ => ⟨⟨by omega, by omega⟩, fun c => ?_, fun c => ?_⟩⟩
    · have hb0 : n.testBit (8 + b) = false := by
        cases hq : n.testBit (8 + b) with
        | false => rfl
        | true => rw [hq] at c; exact absurd c (by decide)
      rw [hb0, if_neg (by decide)] at h
      refine c27 hd (fun d' _ => k27 hC hD (b82_39 ?_))
      rw [hn, zandn_n (by omega) (by omega)]
      exact h
    · have hb1 : n.testBit (8 + b) = true := by
        cases hq : n.testBit (8 + b) with
        | true => rfl
        | false => rw [hq] at c; exact absurd rfl c
      rw [hb1, if_pos rfl] at h
      refine c27 hd (fun d' _ => k27 hC hD (b82_56 ?_))
      rw [hn, zand_n (by omega) (by omega)]
      exact h
end
