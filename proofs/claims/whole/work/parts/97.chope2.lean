/-! ===== states that have a way: a set that grows until it is closed ===== -/
def cW (W : Nat → Bool) (n : Nat) : Nat := match n with
  | 0 => 0
  | n + 1 => cW W n + (W n).toNat
theorem cW_le (W : Nat → Bool) : ∀ n, cW W n ≤ n := by
  intro n
  induction n with
  | zero => exact Nat.le_refl _
  | succ n ih =>
    have := Bool.toNat_le (W n)
    show cW W n + (W n).toNat ≤ n + 1
    omega
theorem cW_up {W : Nat → Bool} {k : Nat} (h : W k = false) : ∀ n, cW (upN W k true) n = cW W n + (if k < n then 1 else 0) := by
  intro n
  induction n with
  | zero => rw [if_neg (by omega)]; rfl
  | succ n ih =>
    show cW (upN W k true) n + (upN W k true n).toNat = cW W n + (W n).toNat + _
    rw [ih]
    by_cases c : n = k
    · rw [c, upN_at, h, if_neg (by omega), if_pos (by omega)]
      show cW W k + 0 + 1 = cW W k + 0 + 1
      rfl
    · rw [upN_ne c]
      by_cases q : k < n
      · rw [if_pos q, if_pos (by omega)]; omega
      · rw [if_neg q, if_neg (by omega)]; omega
theorem hope_iff {D : tD} {g : gS} {ds : Nat → Int} {W : Nat → Bool} (h0 : ∀ k, ds k = 0 ↔ dGoal D (gX g k) = true) (hdn : ∀ k u, ds k = ((u + 1 : Nat) : Int) → ∃ e, gF g k ≤ e ∧ e < gF g (k + 1) ∧ ds (gE g e).2.2.2 = (u : Int)) (hT : tgOk g) (hsound : ∀ k, k < gN g → W k = true → 0 ≤ ds k) (hcl : ∀ k, k < gN g → W k = false → dGoal D (gX g k) = false ∧ anyE g k W = false) : ∀ k, k < gN g → (W k = true ↔ 0 ≤ ds k) := by
  have A : ∀ (v k : Nat), k < gN g → ds k = (v : Int) → W k = true := by
    intro v
    induction v with
    | zero =>
      intro k hk hd
      cases hw : W k with
      | true => rfl
      | false =>
        have := (hcl k hk hw).1
        rw [(h0 k).mp hd] at this
        cases this
    | succ v ih =>
      intro k hk hd
      obtain ⟨e, e1, e2, e3⟩ := hdn k v hd
      have hj := ih _ (hT k hk e e1 e2) e3
      cases hw : W k with
      | true => rfl
      | false =>
        have := (hcl k hk hw).2
        rw [anyE_of e1 e2 hj] at this
        cases this
  intro k hk
  exact ⟨hsound k hk, fun h => A (ds k).toNat k hk (by omega)⟩
