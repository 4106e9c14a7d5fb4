/-! ===== rounds, the class: bitCount, isAsTold, barredAshore, addState, withinReach ===== -/
/-- how many of two bits -/
def bc2 (n : Nat) : Nat := n % 2 + n / 2 % 2
/-- whether a law bars a group ashore: n the things and boats at shore 1, here the things that are ashore, ly the boats that lie -/
def rBar (D : tD) (n here ly : Nat) : Bool := !(decide (dBars D (ndiff here (n &&& here)) 0 (bc2 ly - bc2 (n / 256 &&& ly)) 0 = 0) && decide (dBars D (n &&& here) 1 (bc2 (n / 256 &&& ly)) 0 = 0))
def rTold (D : tD) : Prop := dS D = 2 ∧ dB D = 2 ∧ dLamp D = -1 ∧ dHo D 0 ≤ 3 ∧ dHo D 1 ≤ 3
def z85 (x0 : Int) : Int := zand (((zand (((zand (x0 - (zand (zush x0 1) 1431655765)) 858993459) + (zand (zush (x0 - (zand (zush x0 1) 1431655765)) 2) 858993459)) + (zush ((zand (x0 - (zand (zush x0 1) 1431655765)) 858993459) + (zand (zush (x0 - (zand (zush x0 1) 1431655765)) 2) 858993459)) 4)) 252645135) + (zush (zand (((zand (x0 - (zand (zush x0 1) 1431655765)) 858993459) + (zand (zush (x0 - (zand (zush x0 1) 1431655765)) 2) 858993459)) + (zush ((zand (x0 - (zand (zush x0 1) 1431655765)) 858993459) + (zand (zush (x0 - (zand (zush x0 1) 1431655765)) 2) 858993459)) 4)) 252645135) 8)) + (zush ((zand (((zand (x0 - (zand (zush x0 1) 1431655765)) 858993459) + (zand (zush (x0 - (zand (zush x0 1) 1431655765)) 2) 858993459)) + (zush ((zand (x0 - (zand (zush x0 1) 1431655765)) 858993459) + (zand (zush (x0 - (zand (zush x0 1) 1431655765)) 2) 858993459)) 4)) 252645135) + (zush (zand (((zand (x0 - (zand (zush x0 1) 1431655765)) 858993459) + (zand (zush (x0 - (zand (zush x0 1) 1431655765)) 2) 858993459)) + (zush ((zand (x0 - (zand (zush x0 1) 1431655765)) 858993459) + (zand (zush (x0 - (zand (zush x0 1) 1431655765)) 2) 858993459)) 4)) 252645135) 8)) 16)) 63
theorem z85_v : ∀ n : Nat, n < 4 → z85 ((n : Nat) : Int) = ((bc2 n : Nat) : Int) := by decide +kernel
theorem and4 {a ly : Nat} (h : ly < 4) : a &&& ly < 4 := Nat.lt_of_le_of_lt Nat.and_le_right h
theorem bc2_le : ∀ n : Nat, n < 4 → bc2 n ≤ 2 := by decide
theorem bc2_and : ∀ a : Nat, a < 4 → ∀ b : Nat, b < 4 → bc2 (a &&& b) ≤ bc2 b := by decide +kernel
section
variable {sc : mS} {d : Nat} {t : zT} {I J : Nat → Nat → Int} {Q : zR → zW → Prop} {D : tD}
theorem k85 {x0 : Int} {n : Nat} (e0 : x0 = n) (hn : n < 4) (h : Q (.inl (some (vi ((bc2 n : Nat) : Int)))) (z_cfg t, I, J)) : Go sc d mt_85 0 [vi x0] [] (z_cfg t, I, J) Q := by
  subst e0
  refine b85_0 ?_
  have := z85_v n hn
  unfold z85 at this
  rw [this]
  exact h
theorem k77 (hob : t_ob t = t_rb t) (hU : RU t I D) (h6 : ∀ i, i < 2 → inR (I (z_mf (t_ob t) 6) i)) (h1 : rTold D → Q (.inl (some (vi 1))) (z_cfg t, I, J)) (h0 : ¬ rTold D → Q (.inl (some (vi 0))) (z_cfg t, I, J)) : Go sc d mt_77 0 [vr 1510] [] (z_cfg t, I, J) Q := by
  have hC : CD (t_ob t) I D := by rw [hob]; exact hU.1
  have hD := hU.2.2.2
  have hS := hD.1
  have hB := hD.2.2.1
  unfold rTold at h1 h0
  refine b77_0 ?_
  rw [hC.1, hC.2.2.1, hC.2.2.2.1]
  refine ⟨⟨by omega, by omega⟩, fun c1 => ⟨⟨by omega, by omega⟩, fun c2 => ⟨lamp_in hD, fun c3 => ⟨h6 0 (by decide), ?_⟩, fun c3 => h0 (fun z => c3 z.2.2.1)⟩, fun c2 => h0 (fun z => c2 (by rw [z.2.1]; rfl))⟩, fun c1 => h0 (fun z => c1 (by rw [z.1]; rfl))⟩
  have r0 := hC.2.2.2.2.2.2.1 0 (by omega)
  have r1 := hC.2.2.2.2.2.2.1 1 (by omega)
  have q1 := h6 1 (by decide)
  rw [r1.1] at q1
  rw [r0.1, r1.1]
  exact ⟨fun c4 => h0 (fun z => by omega), fun c4 => ⟨q1, fun c5 => h0 (fun z => by omega), fun c5 => h1 ⟨by omega, by omega, c3, by omega, by omega⟩⟩⟩
theorem k84 {x1 x2 x3 : Int} {n here ly : Nat} (e1 : x1 = n) (e2 : x2 = here) (e3 : x3 = ly) (hd : 3 ≤ d) (hU : RU t I D) (hn : n < 1024) (hh : here ≤ dAll D) (hl : ly < 4) (hS : 2 ≤ dS D) (h : ∀ (I' : Nat → Nat → Int), FB I I' → RU t I' D → Q (.inl (some (vi (((rBar D n here ly).toNat : Nat) : Int)))) (z_cfg t, I', J)) : Go sc d mt_84 0 [vr 1510, vi x1, vi x2, vi x3, vn, vn, vn] [] (z_cfg t, I, J) Q := by
  subst e1 e2 e3
  have hD := hU.2.2.2
  have hA := dAll_lt hD
  have h4 : n / 256 < 4 := by omega
  have ha4 := and4 (a := n / 256) hl
  have hb1 := bc2_le ly hl
  have hb2 := bc2_and (n / 256) h4 ly hl
  have hle : n &&& here ≤ here := Nat.and_le_right
  have hnd := ndiff_le here (n &&& here)
  have ez : zand (zshr (n : Int) 8) (ly : Int) = ((n / 256 &&& ly : Nat) : Int) := by
    rw [show (8 : Int) = ((8 : Nat) : Int) from rfl, zshr_n (by omega) (by omega), zand_n (by omega) (by omega)]
  refine b84_0 ?_
  rw [ez, zand_n (by omega) (by omega)]
  refine c85 (by omega) (fun d' _ => k85 rfl ha4 (b84_14 ?_))
  refine c85 (by omega) (fun d' _ => k85 rfl hl (b84_20 ?_))
  rw [zandn_n (by omega) (by omega), show ((bc2 ly : Nat) : Int) - ((bc2 (n / 256 &&& ly) : Nat) : Int) = ((bc2 ly - bc2 (n / 256 &&& ly) : Nat) : Int) by omega]
  refine c33 (by omega) (fun d' _ => k33 (p := 0) (l := 0) rfl rfl rfl rfl (by omega) hU (by omega) (by omega) (by omega) (by omega) (fun I1 f1 hU1 => b84_42 ?_))
  have hr1 := dBars_r hD (ndiff here (n &&& here)) 0 (bc2 ly - bc2 (n / 256 &&& ly)) 0
  unfold rBar at h
  refine ⟨hr1, fun c => ?_, fun c => ?_⟩
  · have c : dBars D (ndiff here (n &&& here)) 0 (bc2 ly - bc2 (n / 256 &&& ly)) 0 = 0 := by omega
    rw [decide_eq_true c, Bool.true_and] at h
    refine c33 (by omega) (fun d' _ => k33 (p := 1) (l := 0) rfl rfl rfl rfl (by omega) hU1 (by omega) (by omega) (by omega) (by omega) (fun I2 f2 hU2 => b84_58 ?_))
    have hq := h I2 (f1.tr f2) hU2
    refine ⟨dBars_r hD _ _ _ _, fun c2 => ?_, fun c2 => ?_⟩
    · rw [decide_eq_true (by omega : dBars D (n &&& here) 1 (bc2 (n / 256 &&& ly)) 0 = 0)] at hq
      exact hq
    · rw [decide_eq_false (by omega : ¬ dBars D (n &&& here) 1 (bc2 (n / 256 &&& ly)) 0 = 0)] at hq
      exact hq
  · have hq := h I1 f1 hU1
    rw [decide_eq_false (by omega : ¬ dBars D (ndiff here (n &&& here)) 0 (bc2 ly - bc2 (n / 256 &&& ly)) 0 = 0), Bool.false_and] at hq
    exact hq
end
