/-! ===== the class: hopeless ===== -/
set_option maxRecDepth 8000 in
theorem fN_1460 (t : zT) : z_fN (z_tab t ++ t_l t) (1459 + 1) = some 2000 := by
  obtain ⟨ts, te, tt, b1, b2, b3, b4, b5, b6⟩ := t
  rfl
section
variable {sc : mS} {d : Nat} {t : zT} {I J : Nat → Nat → Int} {Q : zR → zW → Prop} {D : tD}
theorem GB.to {I' : Nat → Nat → Int} {act : Nat} {g : gS} (h : GB t I D act g) (hf : ∀ a, ¬ a = 1460 → ¬ a = 1283 → I' a = I a) : GB t I' D act g := by
  obtain ⟨h1, h2, h3, h4, h5, h6⟩ := h
  have hte := h1.2.2.2
  refine ⟨h1, h2.fr (hf _ (by have := zmd_lt (t_gb t); omega) (by have := zmd_lt (t_gb t); omega)) (fun k => hf _ (by have := zmf_lt (t_gb t) k; omega) (by have := zmf_lt (t_gb t) k; omega)), h3, h4.up (fun a ha => hf a (by omega) (by omega)) (fun k _ => by rw [hf 1057 (by decide) (by decide)]), h5, fun z i hi => ?_⟩
  rw [hf 1172 (by decide) (by decide)]
  exact h6 z i hi
theorem k149 {act : Nat} {g : gS} {ds : Nat → Int} (hd : 3 ≤ d) (hG : GB t I D act g) (hs : gSp g = false) (hF : ∀ i, i < gN g → gF g i ≤ gF g (i + 1) ∧ gF g (i + 1) ≤ gM g) (h0 : ∀ k, ds k = 0 ↔ dGoal D (gX g k) = true) (hup : ∀ k e, k < gN g → gF g k ≤ e → e < gF g (k + 1) → 0 ≤ ds (gE g e).2.2.2 → 0 ≤ ds k)
    (h : ∀ (I' : Nat → Nat → Int) (W : Nat → Bool), (∀ a, ¬ a = 1460 → ¬ a = 1283 → I' a = I a) → (∀ k, ¬ k = 1 → I' 1283 k = I 1283 k) → I' 1283 1 = 0 → (∀ k, k < gN g → W k = true → 0 ≤ ds k) → (∀ k, k < gN g → W k = false → dGoal D (gX g k) = false ∧ anyE g k W = false) → Q (.inl (some (vi ((gN g : Int) - (cW W (gN g) : Nat))))) (z_cfg t, I', J)) :
    Go sc d mt_149 0 [vr 1283, vr 1057, vn, vn, vn, vn] [] (z_cfg t, I, J) Q := by
  have hO := hG.2.2.2.2.1
  have hN := hO.1.1
  have hT := gOk_tg hO hF
  have pass : ∀ (p : Nat), p ≤ 2000 → (∀ (I1 : Nat → Nat → Int) (W : Nat → Bool) (fl : Bool) (v5 : zV), (∀ a, ¬ a = 1460 → ¬ a = 1283 → I1 a = I a) → (∀ k, ¬ k = 1 → I1 1283 k = I 1283 k) → I1 1283 1 = 0 → (∀ j, j < gN g → I1 1460 j = ((W j).toNat : Nat)) → (∀ k, k < gN g → W k = true → 0 ≤ ds k) → (fl = false → ∀ k, k < gN g → W k = false → dGoal D (gX g k) = false ∧ anyE g k W = false) → (fl = true → p + 1 ≤ cW W (gN g)) → Go sc d mt_149 23 [vr 1283, vr 1057, vi ((gN g : Int) - (cW W (gN g) : Nat)), vi ((fl.toNat : Nat) : Int), vi ((p : Int) + 1), v5] [] (z_cfg t, I1, J) Q) →
      ∀ (i : Nat) (I1 : Nat → Nat → Int) (W : Nat → Bool) (fl : Bool), i ≤ gN g → (∀ a, ¬ a = 1460 → ¬ a = 1283 → I1 a = I a) → (∀ k, ¬ k = 1 → I1 1283 k = I 1283 k) → I1 1283 1 = 0 → (∀ j, j < gN g → I1 1460 j = ((W j).toNat : Nat)) → (∀ k, k < gN g → W k = true → 0 ≤ ds k) → (fl = false → ∀ k, i ≤ k → k < gN g → W k = false → dGoal D (gX g k) = false ∧ anyE g k W = false) → p ≤ cW W (gN g) → (fl = true → p + 1 ≤ cW W (gN g)) → Go sc d mt_149 51 [vr 1283, vr 1057, vi ((gN g : Int) - (cW W (gN g) : Nat)), vi ((fl.toNat : Nat) : Int), vi (p : Int), vi ((i : Int) - 1)] [] (z_cfg t, I1, J) Q := by
    intro p hp hend i
    induction i with
    | zero =>
      intro I1 W fl _ f1 f2 f3 hW hso hcl hpc hpf
      exact b149_51 ⟨⟨by omega, by omega⟩, fun _ => hend I1 W fl _ f1 f2 f3 hW hso (fun z k hk => hcl z k (by omega) hk) hpf, fun c => by omega⟩
    | succ i ih =>
      intro I1 W fl hi f1 f2 f3 hW hso hcl hpc hpf
      have hG1 := hG.to f1
      have next : ∀ (I2 : Nat → Nat → Int) (W2 : Nat → Bool) (fl2 : Bool), (∀ a, ¬ a = 1460 → ¬ a = 1283 → I2 a = I a) → (∀ k, ¬ k = 1 → I2 1283 k = I 1283 k) → I2 1283 1 = 0 → (∀ j, j < gN g → I2 1460 j = ((W2 j).toNat : Nat)) → (∀ k, k < gN g → W2 k = true → 0 ≤ ds k) → (fl2 = false → ∀ k, i ≤ k → k < gN g → W2 k = false → dGoal D (gX g k) = false ∧ anyE g k W2 = false) → p ≤ cW W2 (gN g) → (fl2 = true → p + 1 ≤ cW W2 (gN g)) → Go sc d mt_149 98 [vr 1283, vr 1057, vi ((gN g : Int) - (cW W2 (gN g) : Nat)), vi ((fl2.toNat : Nat) : Int), vi (p : Int), vi (((i + 1 : Nat) : Int) - 1)] [] (z_cfg t, I2, J) Q := by
        intro I2 W2 fl2 g1 g2 g3 g4 g5 g6 g7 g8
        refine b149_98 ?_
        rw [show (((i + 1 : Nat) : Int) - 1) + (-1) = (i : Int) - 1 by omega]
        exact ih I2 W2 fl2 (by omega) g1 g2 g3 g4 g5 g6 g7 g8
      have e5 : (((i + 1 : Nat) : Int) - 1) = (i : Int) := by omega
      refine b149_51 ⟨⟨by omega, by omega⟩, fun c => by omega, fun _ => ⟨⟨by omega, by omega⟩, ?_⟩⟩
      rw [show (((i + 1 : Nat) : Int) - 1).toNat = i by omega, hW i (by omega)]
      cases hw : W i with
      | true =>
        refine ⟨⟨by decide, by decide⟩, fun c => absurd c (by decide), fun _ => next I1 W fl f1 f2 f3 hW hso (fun z k hk hkn hwk => ?_) hpc hpf⟩
        by_cases q : k = i
        · rw [q, hw] at hwk; cases hwk
        · exact hcl z k (by omega) hkn hwk
      | false =>
        refine ⟨⟨by decide, by decide⟩, fun _ => ?_, fun c => absurd rfl c⟩
        have grow : 0 ≤ ds i → Go sc d mt_149 85 [vr 1283, vr 1057, vi ((gN g : Int) - (cW W (gN g) : Nat)), vi ((fl.toNat : Nat) : Int), vi (p : Int), vi (((i + 1 : Nat) : Int) - 1)] [] (z_cfg t, I1, J) Q := by
          intro hds
          refine b149_85 ⟨⟨by omega, by omega⟩, ?_⟩
          have ec := cW_up hw (gN g)
          rw [if_pos (by omega)] at ec
          rw [show (((i + 1 : Nat) : Int) - 1).toNat = i by omega, show ((gN g : Int) - (cW W (gN g) : Nat)) + (-1) = (gN g : Int) - (cW (upN W i true) (gN g) : Nat) by rw [ec]; omega]
          refine next _ (upN W i true) true (fun a z1 z2 => by rw [zu_ne z1, f1 a z1 z2]) (fun k hk => by rw [zu_ne (by decide : ¬ 1283 = 1460), f2 k hk]) (by rw [zu_ne (by decide : ¬ 1283 = 1460)]; exact f3) (fun j hj => ?_) (fun k hk hwk => ?_) (fun z => by cases z) (by omega) (fun _ => by omega)
          · rw [zu_at]
            by_cases q : j = i
            · rw [if_pos q, q, upN_at]; rfl
            · rw [if_neg q, upN_ne q]; exact hW j hj
          · by_cases q : k = i
            · rw [q]; exact hds
            · rw [upN_ne q] at hwk
              exact hso k hk hwk
        refine c61 (by omega) (fun d' _ => k61 e5 (by omega) hG1 hs (by omega) ?_)
        cases hg : dGoal D (gX g i) with
        | true => exact b149_72 ⟨⟨by decide, by decide⟩, fun c => absurd c (by decide), fun _ => grow (by rw [(h0 i).mpr hg]; decide)⟩
        | false =>
          refine b149_72 ⟨⟨by decide, by decide⟩, fun _ => ?_, fun c => absurd rfl c⟩
          refine c150 (by omega) (fun d' _ => k150 (W := W) e5 (by omega) hG1 hs hF (by omega) hW ?_)
          cases ha : anyE g i W with
          | true =>
            obtain ⟨e, e1, e2, e3⟩ := anyE_ex ha
            exact b149_82 ⟨⟨by decide, by decide⟩, fun c => absurd c (by decide), fun _ => grow (hup i e (by omega) e1 e2 (hso _ (hT i (by omega) e e1 e2) e3))⟩
          | false =>
            refine b149_82 ⟨⟨by decide, by decide⟩, fun _ => next I1 W fl f1 f2 f3 hW hso (fun z k hk hkn hwk => ?_) hpc hpf, fun c => absurd rfl c⟩
            by_cases q : k = i
            · rw [q]; exact ⟨hg, ha⟩
            · exact hcl z k (by omega) hkn hwk
  have passes : ∀ (m p : Nat) (I1 : Nat → Nat → Int) (W : Nat → Bool) (fl : Bool) (v5 : zV), p + m = gN g + 1 → (∀ a, ¬ a = 1460 → ¬ a = 1283 → I1 a = I a) → (∀ k, ¬ k = 1 → I1 1283 k = I 1283 k) → I1 1283 1 = 0 → (∀ j, j < gN g → I1 1460 j = ((W j).toNat : Nat)) → (∀ k, k < gN g → W k = true → 0 ≤ ds k) → (fl = false → ∀ k, k < gN g → W k = false → dGoal D (gX g k) = false ∧ anyE g k W = false) → (fl = true → p ≤ cW W (gN g)) → Go sc d mt_149 23 [vr 1283, vr 1057, vi ((gN g : Int) - (cW W (gN g) : Nat)), vi ((fl.toNat : Nat) : Int), vi (p : Int), v5] [] (z_cfg t, I1, J) Q := by
    intro m
    induction m with
    | zero =>
      intro p I1 W fl v5 hm f1 f2 f3 hW hso hcl hpc
      have hc := cW_le W (gN g)
      cases fl with
      | true =>
        have hpc := hpc rfl
        omega
      | false => exact b149_23 ⟨⟨by omega, by omega⟩, fun _ => h I1 W f1 f2 f3 hso (hcl rfl), fun _ => ⟨⟨by decide, by decide⟩, fun _ => h I1 W f1 f2 f3 hso (hcl rfl), fun c => absurd rfl c⟩⟩
    | succ m ih =>
      intro p I1 W fl v5 hm f1 f2 f3 hW hso hcl hpc
      cases fl with
      | false => exact b149_23 ⟨⟨by omega, by omega⟩, fun _ => h I1 W f1 f2 f3 hso (hcl rfl), fun _ => ⟨⟨by decide, by decide⟩, fun _ => h I1 W f1 f2 f3 hso (hcl rfl), fun c => absurd rfl c⟩⟩
      | true =>
        have hpc := hpc rfl
        refine b149_23 ⟨⟨by omega, by omega⟩, fun c => by omega, fun _ => ⟨⟨by decide, by decide⟩, fun c => absurd c (by decide), fun _ => ?_⟩⟩
        have e3 : I1 1057 3 = gN g := by rw [f1 1057 (by decide) (by decide)]; exact (hG.gi hs).2.2.1.1
        rw [e3, if_neg (by omega)]
        refine ⟨⟨⟨by omega, by omega⟩, ⟨by decide, by decide⟩⟩, ?_⟩
        refine pass p (by omega) (fun I2 W2 fl2 u5 g1 g2 g3 g4 g5 g6 g7 => ?_) (gN g) I1 W false (Nat.le_refl _) f1 f2 f3 hW hso (fun _ k hk hkn => by omega) (by omega) (fun z => by cases z)
        rw [show (p : Int) + 1 = ((p + 1 : Nat) : Int) by omega]
        exact ih (p + 1) I2 W2 fl2 u5 (by omega) g1 g2 g3 g4 g5 g6 g7
  have c0 : ∀ n, cW (fun _ => false) n = 0 := by
    intro n
    induction n with
    | zero => rfl
    | succ n ihn => show cW (fun _ => false) n + 0 = 0; omega
  refine b149_0 ?_
  have e3 : I 1057 3 = gN g := (hG.gi hs).2.2.1.1
  rw [e3]
  refine k11 (a := 1459) (n := 2000) (by omega) (by decide) (fN_1460 t) (by omega) (fun I2 m1 m2 => b149_18 ?_)
  have := passes (gN g + 1) 0 I2 (fun _ => false) true vn (by omega) (fun a z1 z2 => by rw [m2 a z1, zu_ne z2]) (fun k hk => by rw [m2 1283 (by decide), zu_nk hk]) (by rw [m2 1283 (by decide), zu_same]) (fun j hj => m1 j (by omega)) (fun k _ z => by cases z) (fun z => by cases z) (fun _ => Nat.zero_le _)
  rw [c0, show (gN g : Int) - ((0 : Nat) : Int) = (gN g : Int) by omega] at this
  exact this
end
