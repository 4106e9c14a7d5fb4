/-! ===== the reference: alike ===== -/
section
variable {sc : mS} {d : Nat} {t : zT} {I J : Nat → Nat → Int} {Q : zR → zW → Prop} {D : tD} {ho lo : Nat}
/-- all groups of one set -/
def alS1 (D : tD) (i j S p : Nat) : Prop := ∀ nb, nb ≤ 2 → ∀ l, l ≤ 1 → dBars D S p nb l = dBars D (sw i j S) p nb l
theorem dBarR_eq {S p q l : Nat} (h : ¬ p = dS D ∨ q = 1) : dBarR D S p q l = dBars D S p q l := by
  unfold dBarR dBars
  by_cases c : p = dS D
  · rw [if_pos c, h.resolve_left (fun z => z c)]
  · rw [if_neg c]
theorem dBars_ab {S nb nb' l : Nat} : dBars D S (dS D) nb l = dBars D S (dS D) nb' l := by
  unfold dBars
  rw [if_pos rfl, if_pos rfl]
theorem k232 {x1 x2 : Int} {i j : Nat} (e1 : x1 = i) (e2 : x2 = j) (hd : 4 ≤ d) (hV : RV I D ho lo) (hi : i < dT D) (hj : j < dT D) (hij : ¬ i = j)
    (h1 : alP D i j → ∀ (I' : Nat → Nat → Int), FR I I' → RV I' D ho lo → Q (.inl (some (vi 1))) (z_cfg t, I', J)) (h0 : ¬ alP D i j → ∀ (I' : Nat → Nat → Int), FR I I' → RV I' D ho lo → Q (.inl (some (vi 0))) (z_cfg t, I', J)) : Go sc d mt_232 0 [vr 1835, vi x1, vi x2, vn, vn, vn, vn, vn] [] (z_cfg t, I, J) Q := by
  subst e1 e2
  have hD := hV.2.2
  have hA := dAll_lt hD
  have h8 := hD.2.1
  have hS4 := hD.1
  obtain ⟨a1, a2, a3⟩ := pw_lt hD hi
  obtain ⟨b1, -, -⟩ := pw_lt hD hj
  have hpi := Nat.two_pow_pos i
  have hpj := Nat.two_pow_pos j
  have ez : ∀ k : Nat, k < 8 → zshl 1 (k : Int) = ((2 ^ k : Nat) : Int) := fun k hk => by
    have := zshl_n (x := 1) (k := k) (by omega) (by have := Nat.pow_le_pow_right (n := 2) (by decide) (show k ≤ 8 by omega); omega)
    rw [Nat.one_mul] at this
    exact this
  have sets : ∀ (m S : Nat) (I1 : Nat → Nat → Int) (v4 v5 v6 v7 : zV), S + m = dAll D + 1 → 1 ≤ S → FR I I1 → RV I1 D ho lo → (∀ S', S' < S → S'.testBit i = true → S'.testBit j = false → ∀ p, p ≤ dS D → alS1 D i j S' p) → Go sc d mt_232 2 [vr 1835, vi (i : Int), vi (j : Int), vi (S : Int), v4, v5, v6, v7] [] (z_cfg t, I1, J) Q := by
    intro m
    induction m with
    | zero =>
      intro S I1 v4 v5 v6 v7 hS _ f1 hV1 hall
      exact b232_2 (c222 (by omega) (fun d' _ => k222 hV1.1 hD (b232_7 ⟨⟨by omega, by omega⟩, ⟨by omega, by omega⟩, fun _ => h1 (fun p hp nb hnb S' hS' t1 t2 l hl => hall S' (by omega) t1 t2 p hp nb hnb l hl) I1 f1 hV1, fun z => by omega⟩)))
    | succ m ih =>
      intro S I1 v4 v5 v6 v7 hS hS1 f1 hV1 hall
      have skip : ∀ (w4 w5 w6 w7 : zV) (I2 : Nat → Nat → Int), FR I I2 → RV I2 D ho lo → (S.testBit i = true → S.testBit j = false → ∀ p, p ≤ dS D → alS1 D i j S p) → Go sc d mt_232 145 [vr 1835, vi (i : Int), vi (j : Int), vi (S : Int), w4, w5, w6, w7] [] (z_cfg t, I2, J) Q := by
        intro w4 w5 w6 w7 I2 f2 hV2 hs
        refine b232_145 ?_
        rw [show (S : Int) + 1 = ((S + 1 : Nat) : Int) by omega]
        refine ih (S + 1) I2 _ _ _ _ (by omega) (by omega) f2 hV2 (fun S' hS' t1 t2 => ?_)
        by_cases q : S' = S
        · rw [q] at t1 t2 ⊢; exact hs t1 t2
        · exact hall S' (by omega) t1 t2
      refine b232_2 (c222 (by omega) (fun d' _ => k222 hV1.1 hD (b232_7 ?_)))
      rw [zbit (by omega) (by omega), zbit (by omega) (by omega)]
      refine ⟨⟨by omega, by omega⟩, ⟨by omega, by omega⟩, fun z => by omega, fun _ => ⟨fun c => skip _ _ _ _ I1 f1 hV1 (fun t1 => ?_), fun c => ⟨fun c2 => skip _ _ _ _ I1 f1 hV1 (fun _ t2 => ?_), fun c2 => ?_⟩⟩⟩
      · rw [t1] at c; exact absurd c (by decide)
      · rw [t2] at c2; exact absurd c2 (by decide)
      · have t1 : S.testBit i = true := by
          cases hb : S.testBit i with
          | true => rfl
          | false => rw [hb] at c; exact absurd rfl c
        have t2 : S.testBit j = false := by
          cases hb : S.testBit j with
          | false => rfl
          | true => rw [hb] at c2; exact absurd rfl c2
        have hnd := ndiff_le S (2 ^ i)
        rw [ez i (by omega), ez j (by omega), zandn_n (by omega) (by omega), zor_n (by omega) (by omega), sw_eq hij t1 t2]
        have hsl := sw_le hD hi hj (by omega : S ≤ dAll D)
        have bad : ∀ (I2 : Nat → Nat → Int) (p nb l : Nat), FR I I2 → RV I2 D ho lo → p ≤ dS D → nb ≤ 2 → l ≤ 1 → ¬ dBars D S p nb l = dBars D (sw i j S) p nb l → Q (.inl (some (vi 0))) (z_cfg t, I2, J) := fun I2 p nb l f2 hV2 hp hnb hl hn => h0 (fun hal => hn (hal p hp nb hnb S (by omega) t1 t2 l hl)) I2 f2 hV2
        have shores : ∀ (m2 p : Nat) (I2 : Nat → Nat → Int) (w6 w7 : zV), p + m2 = dS D + 1 → FR I I2 → RV I2 D ho lo → (∀ p', p' < p → alS1 D i j S p') → Go sc d mt_232 46 [vr 1835, vi (i : Int), vi (j : Int), vi (S : Int), vi ((sw i j S : Nat) : Int), vi (p : Int), w6, w7] [] (z_cfg t, I2, J) Q := by
          intro m2
          induction m2 with
          | zero =>
            intro p I2 w6 w7 hp f2 hV2 hal
            refine b232_46 ?_
            rw [hV2.1.1]
            exact ⟨⟨by omega, by omega⟩, ⟨by omega, by omega⟩, fun _ => skip _ _ _ _ I2 f2 hV2 (fun _ _ p' hp' => hal p' (by omega)), fun z => by omega⟩
          | succ m2 ih2 =>
            intro p I2 w6 w7 hp f2 hV2 hal
            -- the boats from nb to top
            have boats : ∀ (top m3 nb : Nat) (I3 : Nat → Nat → Int) (u7 : zV), top ≤ 2 → (p = dS D → top = 1) → (¬ p = dS D → top = 2) → nb + m3 = top + 1 → (p = dS D → 1 ≤ nb) → FR I I3 → RV I3 D ho lo → (∀ nb', nb' < nb → (p = dS D → nb' = 1) → ∀ l, l ≤ 1 → dBars D S p nb' l = dBars D (sw i j S) p nb' l) → Go sc d mt_232 71 [vr 1835, vi (i : Int), vi (j : Int), vi (S : Int), vi ((sw i j S : Nat) : Int), vi (p : Int), vi (nb : Int), u7] [] (z_cfg t, I3, J) Q := by
              intro top m3
              induction m3 with
              | zero =>
                intro nb I3 u7 ht0 ht1 ht2 hnb hn1 f3 hV3 hal3
                have nx : Go sc d mt_232 46 [vr 1835, vi (i : Int), vi (j : Int), vi (S : Int), vi ((sw i j S : Nat) : Int), vi ((p : Int) + 1), vi (nb : Int), u7] [] (z_cfg t, I3, J) Q := by
                  rw [show (p : Int) + 1 = ((p + 1 : Nat) : Int) by omega]
                  refine ih2 (p + 1) I3 _ _ (by omega) f3 hV3 (fun p' hp' nb' hnb' l hl => ?_)
                  by_cases q : p' = p
                  · rw [q]
                    by_cases qs : p = dS D
                    · have := hal3 1 (by omega) (fun _ => rfl) l hl
                      rw [qs] at this ⊢
                      rw [dBars_ab (nb' := 1), this]
                      exact dBars_ab
                    · exact hal3 nb' (by omega) (fun z => absurd z qs) l hl
                  · exact hal p' (by omega) nb' hnb' l hl
                refine b232_71 ?_
                rw [hV3.1.1]
                exact ⟨⟨by omega, by omega⟩, ⟨by omega, by omega⟩, fun c => b232_87 ⟨⟨by omega, by omega⟩, ⟨by decide, by decide⟩, fun _ => nx, fun z => by omega⟩, fun c => b232_87 ⟨⟨by omega, by omega⟩, ⟨by decide, by decide⟩, fun _ => nx, fun z => by omega⟩⟩
              | succ m3 ih3 =>
                intro nb I3 u7 ht0 ht1 ht2 hnb hn1 f3 hV3 hal3
                have hq1 : ¬ p = dS D ∨ nb = 1 := by
                  by_cases qs : p = dS D
                  · exact Or.inr (by have := ht1 qs; have := hn1 qs; omega)
                  · exact Or.inl qs
                have lamps : ∀ (m4 l : Nat) (I4 : Nat → Nat → Int), l + m4 = 2 → FR I I4 → RV I4 D ho lo → (∀ l', l' < l → dBars D S p nb l' = dBars D (sw i j S) p nb l') → Go sc d mt_232 93 [vr 1835, vi (i : Int), vi (j : Int), vi (S : Int), vi ((sw i j S : Nat) : Int), vi (p : Int), vi (nb : Int), vi (l : Int)] [] (z_cfg t, I4, J) Q := by
                  intro m4
                  induction m4 with
                  | zero =>
                    intro l I4 hl f4 hV4 hal4
                    refine b232_93 ⟨⟨by omega, by omega⟩, fun z => by omega, fun _ => ?_⟩
                    rw [show (nb : Int) + 1 = ((nb + 1 : Nat) : Int) by omega]
                    refine ih3 (nb + 1) I4 _ ht0 ht1 ht2 (by omega) (fun qs => by have := hn1 qs; omega) f4 hV4 (fun nb' hnb' hq l' hl' => ?_)
                    by_cases q : nb' = nb
                    · rw [q]; exact hal4 l' (by omega)
                    · exact hal3 nb' (by omega) hq l' hl'
                  | succ m4 ih4 =>
                    intro l I4 hl f4 hV4 hal4
                    refine b232_93 ⟨⟨by omega, by omega⟩, fun _ => ?_, fun z => by omega⟩
                    refine c223 (by omega) (fun d' _ => k223 rfl rfl rfl rfl (by omega) hV4 (by omega) (by omega) (by omega) (by omega) (fun I5 f5 hV5 => b232_110 ?_))
                    refine c223 (by omega) (fun d' _ => k223 rfl rfl rfl rfl (by omega) hV5 hsl (by omega) (by omega) (by omega) (fun I6 f6 hV6 => b232_122 ?_))
                    rw [dBarR_eq hq1, dBarR_eq hq1]
                    have F6 := (f4.tr f5).tr f6
                    refine ⟨dBars_r hD _ _ _ _, dBars_r hD _ _ _ _, fun c5 => ?_, fun c5 => bad I6 p nb l F6 hV6 (by omega) (by omega) (by omega) (by omega)⟩
                    rw [show (l : Int) + 1 = ((l + 1 : Nat) : Int) by omega]
                    refine ih4 (l + 1) I6 (by omega) F6 hV6 (fun l' hl' => ?_)
                    by_cases q : l' = l
                    · rw [q]; omega
                    · exact hal4 l' (by omega)
                refine b232_71 ?_
                rw [hV3.1.1]
                refine ⟨⟨by omega, by omega⟩, ⟨by omega, by omega⟩, fun c => b232_87 ⟨⟨by omega, by omega⟩, ⟨by decide, by decide⟩, fun z => ?_, fun _ => lamps 2 0 I3 (by omega) f3 hV3 (fun l' hl' => by omega)⟩, fun c => b232_87 ⟨⟨by omega, by omega⟩, ⟨by decide, by decide⟩, fun z => ?_, fun _ => lamps 2 0 I3 (by omega) f3 hV3 (fun l' hl' => by omega)⟩⟩
                · have := ht1 (by omega); omega
                · omega
            refine b232_46 ?_
            rw [hV2.1.1]
            refine ⟨⟨by omega, by omega⟩, ⟨by omega, by omega⟩, fun z => by omega, fun _ => ⟨fun c4 => b232_69 ?_, fun c4 => b232_69 ?_⟩⟩
            · exact boats 1 1 1 I2 _ (by omega) (fun _ => rfl) (fun z => absurd (by omega) z) (by omega) (fun _ => by omega) f2 hV2 (fun nb' hnb' hq => by have := hq (by omega); omega)
            · exact boats 2 3 0 I2 _ (by omega) (fun z => absurd (by omega) c4) (fun _ => rfl) (by omega) (fun z => absurd (by omega) c4) f2 hV2 (fun nb' hnb' => by omega)
        exact shores (dS D + 1) 0 I1 _ _ (by omega) f1 hV1 (fun p' hp' => by omega)
  exact b232_0 (sets (dAll D) 1 I _ _ _ _ (by omega) (by omega) (FR.rf I) hV (fun S' hS' t1 => by
    have : S' = 0 := by omega
    rw [this, Nat.zero_testBit] at t1
    cases t1))
end
