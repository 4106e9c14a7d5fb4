/-! ===== the law: its loop ===== -/
section
variable {sc : mS} {d : Nat} {t : zT} {I J : Nat → Nat → Int} {Q : zR → zW → Prop} {s : sT} {n : Nat} {x4 : Int} {v5 v6 : zV}
set_option maxRecDepth 4000 in
theorem law_loop (hd : 100 ≤ d) (hsc : sc.1 ≤ 60000) {rs rc : Nat} (hQ : ∀ (t' : zT) (I' J' : Nat → Nat → Int), rS t' ≤ rs → rC t' ≤ rc → Q (.inl (some (vi 1))) (z_cfg t', I', J')) : ∀ (k : Nat) (x4 : Int) (t : zT) (I J : Nat → Nat → Int) (s : sT) (n : Nat) (v5 v6 : zV), 0 ≤ x4 ∧ x4 ≤ 60000 → (sc.1 : Int) - x4 < 6 * ((k : Int) + 1) → LIv t I s n → (n : Int) + 1001 * ((k : Int) + 1) < 2147483648 → rS t + 6 * k ≤ rs ∧ rC t + k ≤ rc → Go sc d mt_283 23 [vr 56, vr 42, vr 1835, vr 3383, vi x4, v5, v6] [] (z_cfg t, I, J) Q := by
  intro k
  induction k with
  | zero =>
    intro x4 t I J s n v5 v6 h0 hk _ _ hr
    exact b283_23 ⟨⟨by omega, by omega⟩, ⟨by omega, by omega⟩, fun _ => hQ _ _ _ (by omega) (by omega), fun c => False.elim (by omega)⟩
  | succ k ih =>
    intro x4 t I J s n v5 v6 h0 hk hL hn hr
    refine b283_23 ⟨⟨by omega, by omega⟩, ⟨by omega, by omega⟩, fun _ => hQ _ _ _ (by omega) (by omega), fun c => ?_⟩
    have hS : 0 ≤ x4 ∧ x4 + 6 ≤ (sc.1 : Int) ∧ sc.1 ≤ 60000 := ⟨h0.1, by omega, hsc⟩
    have h1 : n + 1001 < 2147483648 := by omega
    have B : ∀ j : Int, 0 ≤ j → j < 6 → 0 ≤ x4 + j ∧ x4 + j < (sc.1 : Int) ∧ sc.1 ≤ 60000 := fun j a b => ⟨by omega, by omega, hsc⟩
    have B1 := B 1 (by decide) (by decide)
    have B2 := B 2 (by decide) (by decide)
    have B3 := B 3 (by decide) (by decide)
    have B4 := B 4 (by decide) (by decide)
    have B5 := B 5 (by decide) (by decide)
    have nx : NX sc d Q x4 t n := fun t' I' J' s' n' v5 v6 hL' hn' hro => b283_1436 (ih (x4 + 6) t' I' J' s' n' v5 v6 ⟨by omega, by omega⟩ (by omega) hL' (by omega) ⟨by have := hro.1; omega, by have := hro.2; omega⟩)
    refine ⟨⟨by omega, by omega, hsc⟩, ⟨fun _ => ⟨B1, B2, B3, B4, B5, o_feed hd h1 hS hL nx⟩,
      fun _ => ⟨B1, o_text hd h1 hS hL nx⟩,
      fun _ => o_fault hd h1 hS hL nx,
      fun _ => ⟨B1, o_count hd h1 hS hL nx⟩,
      fun _ => ⟨B1, B2, o_thing hd h1 hS hL nx⟩,
      fun _ => ⟨B1, B2, o_boat hd h1 hS hL nx⟩,
      fun _ => ⟨B1, B2, o_water hd h1 hS hL nx⟩,
      fun _ => ⟨B1, B2, B3, B4, fun z => b283_598 (o_bars (lb := false) (Or.inl ⟨rfl, z⟩) hd h1 hS hL nx), fun z => b283_598 (o_bars (lb := true) (Or.inr ⟨rfl, z⟩) hd h1 hS hL nx)⟩,
      fun _ => ⟨B1, B2, B3, fun z => b283_700 (o_safe (lb := false) (Or.inl ⟨rfl, z⟩) hd h1 hS hL nx), fun z => b283_700 (o_safe (lb := true) (Or.inr ⟨rfl, z⟩) hd h1 hS hL nx)⟩,
      fun _ => ⟨B1, o_reached hd h1 hS hL nx⟩,
      fun _ => o_fewest hd h1 hS hL nx,
      fun _ => o_quickest hd h1 hS hL nx,
      fun _ => o_ways hd h1 hS hL nx,
      fun _ => ⟨B1, B2, o_way hd h1 hS hL nx⟩,
      fun _ => ⟨B1, B2, o_where hd h1 hS hL nx⟩,
      fun _ => ⟨B1, B2, o_rides hd h1 hS hL nx⟩,
      fun _ => ⟨B1, o_laws hd h1 hS hL nx⟩,
      fun _ => ⟨B1, o_size hd h1 hS hL nx⟩,
      fun _ => o_rounds hd h1 hS hL nx,
      fun _ => ⟨B1, o_alike hd h1 hS hL nx⟩,
      fun _ => ⟨B1, B2, B3, o_cross hd h1 hS hL nx⟩,
      fun _ => o_law hd h1 hS hL nx,
      fun _ => o_back hd h1 hS hL nx,
      fun _ => ⟨B1, o_play hd h1 hS hL nx⟩,
      fun _ => ⟨B1, o_hint hd h1 hS hL nx⟩, trivial⟩, fun _ => nx t I J s n v5 v6 hL (by omega) (tRo.rf t)⟩
end
