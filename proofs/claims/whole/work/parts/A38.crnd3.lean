/-! ===== rounds, the class: addRound ===== -/
/-- the boats that stay -/
def stay (f s : Nat) : Nat := (if f = 0 then 1 else 0) ||| (if s = 0 then 2 else 0)
def rNx (n f s : Nat) : Nat := (n ^^^ (f ||| s)) ^^^ (ndiff 3 (stay f s) * 256)
def rOkB (D : tD) (n f s : Nat) : Bool := !(decide (stay f s = 3)) && (!(rBar D n (ndiff (dAll D) (f ||| s)) (stay f s)) && !(rBar D (rNx n f s) (dAll D) 3))
theorem stay_lt (f s : Nat) : stay f s < 4 := by
  unfold stay
  split <;> split <;> decide
theorem rNx_lt {D : tD} {n f s : Nat} (hD : dOk D) (hn : n < 1024) (hf : f ≤ dAll D) (hs : s ≤ dAll D) : rNx n f s < 1024 := by
  have hA := dAll_lt hD
  have h1 : f ||| s < 2 ^ 10 := Nat.or_lt_two_pow (by omega) (by omega)
  have h2 := ndiff_le 3 (stay f s)
  exact Nat.xor_lt_two_pow (n := 10) (Nat.xor_lt_two_pow (n := 10) hn h1) (by omega)
section
variable {sc : mS} {d : Nat} {t : zT} {I J : Nat → Nat → Int} {Q : zR → zW → Prop} {D : tD}
theorem QD.fb {n : Nat} {q : Nat → Nat} {dp : Nat → Int} {I' : Nat → Nat → Int} (h : QD I n q dp) (f : FB I I') : QD I' n q dp := by
  unfold QD
  rw [f 1510 (by decide) (by decide), f 1588 (by decide) (by decide), f 1556 (by decide) (by decide)]
  exact h
theorem k83 {x1 x2 : Int} {f s n k : Nat} {q : Nat → Nat} {dp : Nat → Int} (e1 : x1 = f) (e2 : x2 = s) (hd : 4 ≤ d) (hU : RU t I D) (hob : t_ob t = t_rb t) (hS : 2 ≤ dS D) (hf : f ≤ dAll D) (hs : s ≤ dAll D) (hn : I 1510 6 = n) (hn2 : n < 1024) (hQ : QD I k q dp) (hdn : 0 ≤ dp n ∧ dp n < 1024)
    (h1 : rOkB D n f s = true → dp (rNx n f s) = -1 → ∀ (I1 I' : Nat → Nat → Int), FB I I1 → RU t I1 D → (∀ a, ¬ a = 1556 → ¬ a = 1588 → ¬ a = 1510 → I' a = I1 a) → (∀ k, ¬ k = 5 → I' 1510 k = I1 1510 k) → QD I' (k + 1) (upN q k (rNx n f s)) (upI dp (rNx n f s) (dp n + 1)) → Q (.inl none) (z_cfg t, I', J))
    (h0 : (rOkB D n f s = false ∨ ¬ dp (rNx n f s) = -1) → ∀ (I1 : Nat → Nat → Int), FB I I1 → RU t I1 D → Q (.inl none) (z_cfg t, I1, J)) :
    Go sc d mt_83 0 [vr 1510, vi x1, vi x2, vn, vn, vn] [] (z_cfg t, I, J) Q := by
  subst e1 e2
  have hD := hU.2.2.2
  have hA := dAll_lt hD
  have hor : f ||| s < 256 := Nat.or_lt_two_pow (n := 8) (by omega) (by omega)
  have hst := stay_lt f s
  have hnx := rNx_lt hD hn2 hf hs
  have hn3 := ndiff_le 3 (stay f s)
  have hnd := ndiff_le (dAll D) (f ||| s)
  have cd : ∀ I1, RU t I1 D → CD (t_ob t) I1 D := fun I1 u => by rw [hob]; exact u.1
  unfold rOkB at h1 h0
  have go22 : ∀ (s1 s0 : Int), zor s1 s0 = ((stay f s : Nat) : Int) → Go sc d mt_83 22 [vr 1510, vi (f : Int), vi (s : Int), vi (zor (f : Int) (s : Int)), vn, vn] [vi s0, vi s1] (z_cfg t, I, J) Q := by
    intro s1 s0 hz
    refine b83_22 ?_
    rw [hz, hn, zor_n (by omega) (by omega)]
    refine ⟨fun c => ?_, fun c => ?_⟩
    · rw [decide_eq_true (by omega : stay f s = 3)] at h0
      exact h0 (Or.inl rfl) I (FB.rf I) hU
    · rw [decide_eq_false (by omega : ¬ stay f s = 3)] at h0 h1
      refine c27 (by omega) (fun d' _ => k27 (cd I hU) hD (b83_43 ?_))
      rw [zandn_n (by omega) (by omega)]
      refine c84 (by omega) (fun d' _ => k84 rfl rfl rfl (by omega) hU hn2 hnd hst hS (fun I1 f1 hU1 => b83_52 ?_))
      cases hb1 : rBar D n (ndiff (dAll D) (f ||| s)) (stay f s) with
      | true =>
        rw [hb1] at h0
        exact ⟨⟨by decide, by decide⟩, fun z => absurd z (by decide), fun _ => h0 (Or.inl rfl) I1 f1 hU1⟩
      | false =>
        rw [hb1] at h0 h1
        have e6 : I1 1510 6 = n := by rw [f1 1510 (by decide) (by decide)]; exact hn
        have eaf : zxor (zxor (n : Int) ((f ||| s : Nat) : Int)) (zshl (zand 3 (zxor ((stay f s : Nat) : Int) (-1))) 8) = ((rNx n f s : Nat) : Int) := by
          have e3 : zand 3 (zxor ((stay f s : Nat) : Int) (-1)) = ((ndiff 3 (stay f s) : Nat) : Int) := zandn_n (x := 3) (by decide) (by omega)
          have hx : n ^^^ (f ||| s) < 1024 := Nat.xor_lt_two_pow (n := 10) hn2 (by omega)
          rw [e3, show (8 : Int) = ((8 : Nat) : Int) from rfl, zshl_n (by decide) (by omega), zxor_n (by omega) (by omega), zxor_n (by omega) (by omega)]
          rfl
        rw [e6, eaf]
        refine ⟨⟨by decide, by decide⟩, fun _ => ?_, fun z => absurd rfl z⟩
        refine c27 (by omega) (fun d' _ => k27 (cd I1 hU1) hD (b83_84 ?_))
        refine c84 (by omega) (fun d' _ => k84 (ly := 3) rfl rfl rfl (by omega) hU1 hnx (Nat.le_refl _) (by decide) hS (fun I2 f2 hU2 => b83_88 ?_))
        have F2 := f1.tr f2
        cases hb2 : rBar D (rNx n f s) (dAll D) 3 with
        | true =>
          rw [hb2] at h0
          exact ⟨⟨by decide, by decide⟩, fun z => absurd z (by decide), fun _ => h0 (Or.inl rfl) I2 F2 hU2⟩
        | false =>
          rw [hb2] at h0 h1
          have e62 : I2 1510 6 = n := by rw [f2 1510 (by decide) (by decide)]; exact e6
          have hQ2 := hQ.fb F2
          rw [e62, show zand (n : Int) 1023 = (n : Int) by rw [show (1023 : Int) = ((1023 : Nat) : Int) from rfl, zandm 1023 10 rfl (by omega) (by omega), Nat.mod_eq_of_lt (by omega)], Int.toNat_natCast, (hQ2.2.2.1 n hn2).1]
          refine ⟨⟨by decide, by decide⟩, fun _ => ⟨⟨by omega, by omega⟩, ?_⟩, fun z => absurd rfl z⟩
          exact c80 (by omega) (fun d' _ => k80 rfl (by omega) hnx hQ2 (fun c3 I3 g1 g2 g3 => b83_112 (h1 rfl c3 I2 I3 F2 hU2 g1 g2 g3)) (fun c3 => b83_112 (h0 (Or.inr c3) I2 F2 hU2)))
  have go13 : ∀ s1 : Int, s1 = (if f = 0 then 1 else 0) → Go sc d mt_83 13 [vr 1510, vi (f : Int), vi (s : Int), vi (zor (f : Int) (s : Int)), vn, vn] [vi s1] (z_cfg t, I, J) Q := by
    intro s1 hs1
    have key : ∀ v : Int, v = (if s = 0 then 2 else 0) → zor s1 v = ((stay f s : Nat) : Int) := by
      intro v hv
      rw [hs1, hv]
      unfold stay
      split <;> split <;> decide
    refine b83_13 ⟨⟨by omega, by omega⟩, fun c => go22 s1 2 (key 2 (by rw [if_pos (by omega)])), fun c => go22 s1 0 (key 0 (by rw [if_neg (by omega)]))⟩
  exact b83_0 ⟨⟨by omega, by omega⟩, fun c => go13 1 (by rw [if_pos (by omega)]), fun c => go13 0 (by rw [if_neg (by omega)])⟩
end
