/-! ===== rounds, the class: listLoads ===== -/
/-- what a boat may have aboard -/
def rLs (D : tD) (b n : Nat) : List Nat := (List.range' 1 n).filter (fun S => dFits D S (dHo D b) (dLo D b) && decide (dBars D S (dS D) 1 0 = 0))
theorem rLs_len (D : tD) (b n : Nat) : (rLs D b n).length ≤ n := by
  unfold rLs
  exact Nat.le_trans (List.length_filter_le _ _) (by rw [List.length_range']; exact Nat.le_refl _)
theorem rLs_s (D : tD) (b n : Nat) : rLs D b (n + 1) = rLs D b n ++ (if (dFits D (n + 1) (dHo D b) (dLo D b) && decide (dBars D (n + 1) (dS D) 1 0 = 0)) = true then [n + 1] else []) := by
  unfold rLs
  rw [rng_app, List.filter_append, Nat.add_comm 1 n]
  congr 1
  by_cases c : (dFits D (n + 1) (dHo D b) (dLo D b) && decide (dBars D (n + 1) (dS D) 1 0 = 0)) = true
  · rw [if_pos c, List.filter_cons_of_pos (p := fun S => dFits D S (dHo D b) (dLo D b) && decide (dBars D S (dS D) 1 0 = 0)) (a := n + 1) (l := []) c]; rfl
  · rw [if_neg c, List.filter_cons_of_neg (p := fun S => dFits D S (dHo D b) (dLo D b) && decide (dBars D S (dS D) 1 0 = 0)) (a := n + 1) (l := []) c]; rfl
theorem zld_or (bl : Bool) : z_ld bl = 1620 ∨ z_ld bl = 1652 := by cases bl; exact Or.inl rfl; exact Or.inr rfl
def LD (I : Nat → Nat → Int) (bl : Bool) (l : List Nat) : Prop := I (z_ld bl) 0 = 0 ∧ ∀ (i S : Nat), l[i]? = some S → I (z_ld bl) (i + 1) = (S : Int)
section
variable {sc : mS} {d : Nat} {t : zT} {I J : Nat → Nat → Int} {Q : zR → zW → Prop} {D : tD}
theorem k79 {x1 : Int} {b : Nat} {bl : Bool} (e1 : x1 = b) (hd : 3 ≤ d) (hU : RU t I D) (hob : t_ob t = t_rb t) (hb : b < dB D) (hho : dHo D b < 2147483648) (hlo : dLo D b < 2147483648)
    (h : ∀ (I' : Nat → Nat → Int), (∀ a, ¬ a = 884 → ¬ a = 1044 → ¬ a = z_ld bl → I' a = I a) → RU t I' D → LD I' bl (rLs D b (dAll D)) → Q (.inl (some (vi (((rLs D b (dAll D)).length + 1 : Nat) : Int)))) (z_cfg t, I', J)) : Go sc d mt_79 0 [vr 1510, vi x1, vr (z_ld bl), vn, vn] [] (z_cfg t, I, J) Q := by
  subst e1
  have hD := hU.2.2.2
  have hA := dAll_lt hD
  have hB := hD.2.2.1
  have hz := zld_or bl
  have ldU : ∀ (I1 : Nat → Nat → Int) (k : Nat) (v : Int), RU t I1 D → RU t (z_u I1 (z_ld bl) k v) D := fun I1 k v u => u.up rfl (fun a ha => zu_ne (by omega))
  have cd : ∀ I1, RU t I1 D → CD (t_ob t) I1 D := fun I1 u => by rw [hob]; exact u.1
  have loop : ∀ (m n : Nat) (I1 : Nat → Nat → Int), n + m = dAll D → (∀ a, ¬ a = 884 → ¬ a = 1044 → ¬ a = z_ld bl → I1 a = I a) → RU t I1 D → LD I1 bl (rLs D b n) → Go sc d mt_79 9 [vr 1510, vi (b : Int), vr (z_ld bl), vi (((rLs D b n).length + 1 : Nat) : Int), vi ((n + 1 : Nat) : Int)] [] (z_cfg t, I1, J) Q := by
    intro m
    induction m with
    | zero =>
      intro n I1 hn f1 hU1 hL
      have : n = dAll D := by omega
      subst this
      exact b79_9 (c27 (by omega) (fun d' _ => k27 (cd I1 hU1) hD (b79_18 ⟨⟨by omega, by omega⟩, ⟨by omega, by omega⟩, fun _ => h I1 f1 hU1 hL, fun z => by omega⟩)))
    | succ m ih =>
      intro n I1 hn f1 hU1 hL
      have hlen := rLs_len D b n
      have rb := (cd I1 hU1).2.2.2.2.2.2.1 b hb
      have next : ∀ (I2 : Nat → Nat → Int) (x3 : Int), (∀ a, ¬ a = 884 → ¬ a = 1044 → ¬ a = z_ld bl → I2 a = I a) → RU t I2 D → LD I2 bl (rLs D b (n + 1)) → x3 = (((rLs D b (n + 1)).length + 1 : Nat) : Int) → Go sc d mt_79 86 [vr 1510, vi (b : Int), vr (z_ld bl), vi x3, vi ((n + 1 : Nat) : Int)] [] (z_cfg t, I2, J) Q := by
        intro I2 x3 f2 hU2 hL2 hx3
        refine b79_86 ?_
        rw [hx3, show ((n + 1 : Nat) : Int) + 1 = ((n + 1 + 1 : Nat) : Int) by omega]
        exact ih (n + 1) I2 (by omega) f2 hU2 hL2
      have hs := rLs_s D b n
      refine b79_9 (c27 (by omega) (fun d' _ => k27 (cd I1 hU1) hD (b79_18 ?_)))
      rw [Int.toNat_natCast, rb.1, rb.2.1]
      refine ⟨⟨by omega, by omega⟩, ⟨by omega, by omega⟩, fun z => by omega, fun _ => ⟨⟨by omega, by omega⟩, fun _ => ⟨⟨by omega, by omega⟩, ?_⟩, fun z => by omega⟩⟩
      refine c28 (by omega) (fun d' _ => k28 rfl rfl rfl (by omega) hU1.2.1 hD (by omega) hho hlo (b79_54 ?_))
      cases hft : dFits D (n + 1) (dHo D b) (dLo D b) with
      | false =>
        rw [hft, Bool.false_and, if_neg (by decide), List.append_nil] at hs
        exact ⟨⟨by decide, by decide⟩, fun _ => next I1 _ f1 hU1 (by rw [hs]; exact hL) (by rw [hs]), fun z => absurd rfl z⟩
      | true =>
        rw [hft, Bool.true_and] at hs
        refine ⟨⟨by decide, by decide⟩, fun z => absurd z (by decide), fun _ => ?_⟩
        rw [(cd I1 hU1).1]
        refine c33 (by omega) (fun d' _ => k33 (S := n + 1) (p := dS D) (nb := 1) (l := 0) rfl rfl rfl rfl (by omega) hU1 (by omega) (Nat.le_refl _) (by decide) (by decide) (fun I2 f2 hU2 => b79_75 ?_))
        have f2' : ∀ a, ¬ a = 884 → ¬ a = 1044 → ¬ a = z_ld bl → I2 a = I a := fun a a1 a2 a3 => (f2 a a1 a2).trans (f1 a a1 a2 a3)
        have e2 : I2 (z_ld bl) = I1 (z_ld bl) := f2 _ (by omega) (by omega)
        refine ⟨dBars_r hD _ _ _ _, fun c => ⟨⟨by omega, by omega⟩, ?_⟩, fun c => ?_⟩
        · rw [decide_eq_true (by omega : dBars D (n + 1) (dS D) 1 0 = 0), if_pos rfl] at hs
          rw [Int.toNat_natCast]
          refine next _ _ (fun a a1 a2 a3 => by rw [zu_ne a3]; exact f2' a a1 a2 a3) (ldU I2 _ _ hU2) ?_ (by rw [hs, List.length_append]; show _ = (((rLs D b n).length + 1 + 1 : Nat) : Int); omega)
          refine ⟨by rw [zu_nk (by omega), e2]; exact hL.1, fun i S hi => ?_⟩
          rw [hs] at hi
          rw [zu_at, e2]
          by_cases q : i = (rLs D b n).length
          · rw [q, List.getElem?_append_right (Nat.le_refl _), Nat.sub_self] at hi
            have hi : some (n + 1) = some S := hi
            cases hi
            rw [if_pos (by omega)]
          · rw [if_neg (by omega)]
            by_cases q2 : i < (rLs D b n).length
            · rw [List.getElem?_append_left q2] at hi
              exact hL.2 i S hi
            · rw [List.getElem?_eq_none (by rw [List.length_append]; show (rLs D b n).length + 1 ≤ i; omega)] at hi
              cases hi
        · rw [decide_eq_false (by omega : ¬ dBars D (n + 1) (dS D) 1 0 = 0), if_neg (by decide), List.append_nil] at hs
          refine next I2 _ f2' hU2 ?_ (by rw [hs])
          rw [hs]
          exact ⟨by rw [e2]; exact hL.1, fun i S hi => by rw [e2]; exact hL.2 i S hi⟩
  refine b79_0 ?_
  exact loop (dAll D) 0 _ (by omega) (fun a _ _ a3 => zu_ne a3) (ldU I 0 0 hU) ⟨zu_same _ _ _ _, fun i S hi => by cases hi⟩
end
