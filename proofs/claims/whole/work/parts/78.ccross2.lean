/-! ===== the class: addCrossings ===== -/
section
variable {sc : mS} {d : Nat} {t : zT} {I J : Nat → Nat → Int} {Q : zR → zW → Prop} {D : tD}
/-- the sets of one shore, from the set c on -/
theorem k49sets {s b p k act ho lo : Nat} {t0 : zT} {I0 J0 : Nat → Nat → Int} (hd : 5 ≤ d) (hgb : t_gb t0 = t_rb t0) (hs : stOk D s) (hun : dShores D s &&& act = 0) (hb : b < dB D) (hp : p < dS D) (hact : act < 4096) (ha : I0 1057 8 = act) (hgo : dLamp D = -1 ∨ llamp s = lberth s b) (hft : FT I0 D act b (if b = 0 then ho else dHo D b) (if b = 0 then lo else dLo D b) 256) (gF0 : gS)
    (h : ∀ (t' : zT) (I' J' : Nat → Nat → Int) (x9 x10 : Int), AC t0 I0 J0 D act k s t' I' J' gF0 → Go sc d mt_49 224 [vr 1057, vi (s : Int), vi (b : Int), vi (lberth s b : Int), vi (lash s (lberth s b) (dT D) : Int), vi ((cntb (dB D) s (lberth s b) : Int) - 1), vi (p : Int), vi (lash s p (dT D) : Int), vi ((cntb (dB D) s p : Int) + 1), vi x9, vi x10] [] (z_cfg t', I', J') Q) :
    ∀ (m c i : Nat) (t1 : zT) (I1 J1 : Nat → Nat → Int) (g : gS), c + m = dAll D → c &&& lash s (lberth s b) (dT D) = c → i ≤ c → AC t0 I0 J0 D act k s t1 I1 J1 g → gF0 = exS D act ho lo k s b p (List.range' (c + 1) m) g →
      Go sc d mt_49 83 [vr 1057, vi (s : Int), vi (b : Int), vi (lberth s b : Int), vi (lash s (lberth s b) (dT D) : Int), vi ((cntb (dB D) s (lberth s b) : Int) - 1), vi (p : Int), vi (lash s p (dT D) : Int), vi ((cntb (dB D) s p : Int) + 1), vi (c : Int), vi (i : Int)] [] (z_cfg t1, I1, J1) Q := by
  intro m
  induction m using Nat.strongRecOn with
  | ind m ih =>
    intro c i t1 I1 J1 g hcm hc hi hAC hgF
    have hAC0 := hAC
    obtain ⟨aR, aF, aU, aG, aO, aK, aX, aN⟩ := hAC
    have hD := aU.2.2.2
    have hA := dAll_lt hD
    have hB := hD.2.2.1
    have hS4 := hD.1
    have hfr := hs.2.2 b hb
    have gb1 : t_gb t1 = t_rb t1 := by rw [aR.1.2.2.1, aR.1.2.1, hgb]
    have hC : CD (t_gb t1) I1 D := by rw [gb1]; exact aU.1
    have hcl : c ≤ lash s (lberth s b) (dT D) := by
      rw [← hc]; exact Nat.and_le_right
    have hPl := lash_le (D := D) (s := s) (p := lberth s b)
    have hTl := lash_le (D := D) (s := s) (p := p)
    have hcf := cntb_le (dB D) s (lberth s b)
    have hcp := cntb_le (dB D) s p
    have hc1 := cntb_pos (s := s) hb
    refine b49_83 ⟨⟨by omega, by omega⟩, fun _ => ?_, fun q => by omega⟩
    refine c50 (by omega) (fun d' _ => k50 rfl rfl (by omega) (by omega) hC hD ?_)
    cases hfl : dFlow D (lberth s b) p with
    | false =>
      refine b49_101 ⟨⟨by decide, by decide⟩, fun _ => ?_, fun q => absurd rfl q⟩
      rw [exS_no _ _ (fun S _ => okE_nf hfl)] at hgF
      rw [hgF] at h
      exact h t1 I1 J1 _ _ hAC0
    | true =>
      refine b49_101 ⟨⟨by decide, by decide⟩, fun q => absurd q (by decide), fun _ => ?_⟩
      rcases aG with ⟨sp1, sp2, -⟩ | ⟨sp1, hGI⟩
      · rw [sp2]
        refine ⟨⟨by decide, by decide⟩, fun q => absurd q (by decide), fun _ => ?_⟩
        rw [exS_sp sp1] at hgF
        rw [hgF] at h
        exact h t1 I1 J1 _ _ hAC0
      · rw [hGI.1]
        refine ⟨⟨by decide, by decide⟩, fun _ => ?_, fun q => absurd rfl q⟩
        rw [zsub hcl (by omega)]
        have hn := nsub_nxt (lash s (lberth s b) (dT D)) (by omega) c (by omega) hc
        by_cases hend : c = lash s (lberth s b) (dT D)
        · rw [if_pos hend] at hn
          have h0 : nsub c (lash s (lberth s b) (dT D)) = 0 := by rw [hend]; exact nsub_end _ (by omega)
          rw [h0]
          refine ⟨fun _ => ?_, fun q => absurd rfl q⟩
          have hno := nxt_none _ _ hn
          rw [exS_no _ _ (fun S hS => okE_ns (by
            have := List.mem_range'_1.mp hS
            exact hno S (by omega) (by omega)))] at hgF
          rw [hgF] at h
          exact h t1 I1 J1 _ _ hAC0
        · rw [if_neg hend] at hn
          obtain ⟨n1, n2, n3, n4⟩ := nxt_some _ _ _ hn
          generalize hS : nsub c (lash s (lberth s b) (dT D)) = S at n1 n2 n3 n4
          have hSP : S ≤ lash s (lberth s b) (dT D) := by rw [← n3]; exact Nat.and_le_right
          -- the list up to S and behind it
          have hsplit : exS D act ho lo k s b p (List.range' (c + 1) m) g = exS D act ho lo k s b p (List.range' (S + 1) (dAll D - S)) (if okE D act ho lo s b p S = true then addE D g k b p S else g) := by
            have e1 : List.range' (c + 1) m = List.range' (c + 1) (S - (c + 1)) ++ List.range' S (dAll D - S + 1) := by
              have := List.range'_append (s := c + 1) (m := S - (c + 1)) (n := dAll D - S + 1) (step := 1)
              rw [Nat.one_mul, show c + 1 + (S - (c + 1)) = S by omega, show S - (c + 1) + (dAll D - S + 1) = m by omega] at this
              exact this.symm
            rw [e1, exS_app, exS_no (List.range' (c + 1) (S - (c + 1))) g (fun x hx => okE_ns (by
              have := List.mem_range'_1.mp hx
              exact n4 x (by omega) (by omega))), rng_cons]
            rfl
          rw [hsplit] at hgF
          refine ⟨fun q => by omega, fun _ => ?_⟩
          have e255 : zand (S : Int) 255 = (S : Int) := by
            rw [show (255 : Int) = ((255 : Nat) : Int) from rfl, zandm 255 8 rfl (by omega) (by omega), Nat.mod_eq_of_lt (by omega)]
          have eb : zand (b : Int) 1 = (b : Int) := by rw [zand1 (by omega), Nat.mod_eq_of_lt (by omega)]
          rw [e255, eb, show ((b : Int) * 256) + (S : Int) = ((b * 256 + S : Nat) : Int) by omega, Int.toNat_natCast]
          have hfit : I1 1270 (b * 256 + S) = ((fitB D act S (if b = 0 then ho else dHo D b) (if b = 0 then lo else dLo D b)).toNat : Int) := by
            rw [aF.1 1270 (by decide) (by decide) (by decide) (by decide) (by decide) (by decide) (by decide) (by decide)]
            exact hft S (by omega) (by omega) (by omega)
          have h3 := okE_3 (act := act) (ho := ho) (lo := lo) hD hb hp (by omega : S ≤ dAll D) hun hs hfl hgo n3
          -- on to the next set
          have next : ∀ (t2 : zT) (I2 J2 : Nat → Nat → Int) (g2 : gS), AC t0 I0 J0 D act k s t2 I2 J2 g2 → g2 = (if okE D act ho lo s b p S = true then addE D g k b p S else g) → Go sc d mt_49 218 [vr 1057, vi (s : Int), vi (b : Int), vi (lberth s b : Int), vi (lash s (lberth s b) (dT D) : Int), vi ((cntb (dB D) s (lberth s b) : Int) - 1), vi (p : Int), vi (lash s p (dT D) : Int), vi ((cntb (dB D) s p : Int) + 1), vi (S : Int), vi (i : Int)] [] (z_cfg t2, I2, J2) Q := by
            intro t2 I2 J2 g2 hA2 hg2
            rw [← hg2] at hgF
            exact b49_218 (ih (dAll D - S) (by omega) S (i + 1) t2 I2 J2 g2 (by omega) n3 (by omega) hA2 hgF)
          have noE : ∀ (I2 : Nat → Nat → Int), FB I1 I2 → RU t1 I2 D → okE D act ho lo s b p S = false → Go sc d mt_49 218 [vr 1057, vi (s : Int), vi (b : Int), vi (lberth s b : Int), vi (lash s (lberth s b) (dT D) : Int), vi ((cntb (dB D) s (lberth s b) : Int) - 1), vi (p : Int), vi (lash s p (dT D) : Int), vi ((cntb (dB D) s p : Int) + 1), vi (S : Int), vi (i : Int)] [] (z_cfg t1, I2, J1) Q := by
            intro I2 hF2 hU2 hq
            refine next t1 I2 J1 g ⟨aR, aF.tr (FA.fb J1 hF2), hU2, GC.fb (Or.inr ⟨sp1, hGI⟩) aR.2.1 hF2, aO, aK, aX, aN⟩ ?_
            rw [hq, if_neg (by decide)]
          refine ⟨⟨by omega, by omega⟩, ?_⟩
          rw [hfit]
          cases hfb : fitB D act S (if b = 0 then ho else dHo D b) (if b = 0 then lo else dLo D b) with
          | false =>
            refine ⟨⟨by decide, by decide⟩, fun _ => noE I1 (FB.rf I1) aU ?_, fun q => absurd rfl q⟩
            cases hq : okE D act ho lo s b p S
            · rfl
            · have := (h3.mp hq).1
              rw [hfb] at this
              cases this
          | true =>
            refine ⟨⟨by decide, by decide⟩, fun q => absurd q (by decide), fun _ => ?_⟩
            have gd := ndiff_le (lash s (lberth s b) (dT D)) S
            rw [zandn_n (by omega) (by omega)]
            refine c33 (by omega) (fun d' _ => k33 (nb := cntb (dB D) s (lberth s b) - 1) (l := 0) rfl rfl (by omega) rfl (by omega) aU (by omega) (by omega) (by omega) (by omega) (fun I2 hF2 hU2 => ?_))
            have l1 := dBars_lt hD (ndiff (lash s (lberth s b) (dT D)) S) (lberth s b) (cntb (dB D) s (lberth s b) - 1) 0
            have ea2 : ∀ I3 : Nat → Nat → Int, FB I1 I3 → I3 1057 8 = act := fun I3 hF3 => by
              rw [hF3 1057 (by decide) (by decide), aF.2.1 8 (by decide), ha]
            refine b49_169 ?_
            rw [ea2 I2 hF2, zand_n (by omega) (by omega)]
            refine ⟨fun q1 => ?_, fun q1 => noE I2 hF2 hU2 ?_⟩
            · have hC2 : CD (t_gb t1) I2 D := by rw [gb1]; exact hU2.1
              have hor : lash s p (dT D) ||| S ≤ dAll D := by
                have : lash s p (dT D) ||| S < 2 ^ dT D := Nat.or_lt_two_pow (lash_lt s p (dT D)) (lt_all (by omega))
                unfold dAll
                omega
              rw [zor_n (by omega) (by omega)]
              have hnb : cntb (dB D) s p + 1 ≤ 2 := by
                -- the boat that goes isn't there
                have hne : ¬ lberth s b = p := fun e => by
                  unfold dFlow at hfl
                  rw [e, (hD.2.2.2.2.2.2.2.1 p (by omega)).2] at hfl
                  cases hfl
                have z := cntg_1 (n := dB D) (s := s) (p := p) (b := b)
                rw [if_neg (fun w => hne w.2)] at z
                have hcg : cntg (dB D) s p (2 ^ b) + 1 ≤ dB D := by
                  have gen : ∀ n, b < n → cntg n s p (2 ^ b) + 1 ≤ n := by
                    intro n
                    induction n with
                    | zero => intro w; omega
                    | succ n ihn =>
                      intro w
                      show cntg n s p (2 ^ b) + (if (2 ^ b).testBit n = false ∧ lberth s n = p then 1 else 0) + 1 ≤ n + 1
                      rw [Nat.testBit_two_pow]
                      by_cases e : b = n
                      · rw [decide_eq_true e, if_neg (fun z => by cases z.1)]
                        have := cntg_le n s p (2 ^ b)
                        omega
                      · have := ihn (by omega)
                        split <;> omega
                  exact gen (dB D) hb
                omega
              refine c32 (by omega) (fun d' _ => k32 hC2 hD ?_)
              refine b49_197 (c33 (by omega) (fun d' _ => k33 (nb := cntb (dB D) s p + 1) rfl rfl (by omega) rfl (by omega) hU2 hor (by omega) hnb dAlong_le (fun I3 hF3 hU3 => ?_)))
              have l2 := dBars_lt hD (lash s p (dT D) ||| S) p (cntb (dB D) s p + 1) (dAlong D)
              have hF13 := hF2.tr hF3
              refine b49_200 ?_
              rw [ea2 I3 hF13, zand_n (by omega) (by omega)]
              refine ⟨fun q2 => ?_, fun q2 => noE I3 hF13 hU3 ?_⟩
              · have hok : okE D act ho lo s b p S = true := h3.mpr ⟨hfb, by omega, by omega⟩
                have hok' : okE D act ho lo (gX g k) b p S = true := by rw [aX]; exact hok
                have hC3 : CD (t_gb t1) I3 D := by rw [gb1]; exact hU3.1
                have hGI3 : GI t1 I3 D g := by
                  rcases GC.fb (Or.inr ⟨sp1, hGI⟩) aR.2.1 hF13 with ⟨z, -⟩ | ⟨-, z⟩
                  · rw [sp1] at z; cases z
                  · exact z
                have hx3 : I3 1057 9 = ((gDp g k + 1 : Nat) : Int) := by rw [hF13 1057 (by decide) (by decide), aF.2.1 9 (by decide), aN]
                refine c51 (by omega) (fun d' _ => k51 (g := g) (k := k) (by rw [aX]) rfl rfl rfl (by omega) hC3 hD aO sp1 hGI3 aR.2.1 aK hx3 hb hp (by omega) hok' (fun t4 I4 J4 r1 r2 r3 => ?_))
                have ok4 := addE_ok hD aO aK hb hp (by omega) hok'
                refine next t4 I4 J4 _ ⟨aR.tr r1, (aF.tr (FA.fb J1 hF13)).tr (FA.fe r2), hU3.to r1 r2, r3, ok4.1, by omega, ?_, ?_⟩ (by rw [hok, if_pos rfl])
                · rw [(ok4.2.2.1 k aK).1, aX]
                · rw [(ok4.2.2.1 k aK).2]; exact aN
              · cases hq : okE D act ho lo s b p S
                · rfl
                · have := (h3.mp hq).2.2
                  exact absurd (by rw [this]; rfl) q2
            · cases hq : okE D act ho lo s b p S
              · rfl
              · have := (h3.mp hq).2.1
                exact absurd (by rw [this]; rfl) q1
end
