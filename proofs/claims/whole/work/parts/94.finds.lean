/-! ===== the reference: finds ===== -/
/-- what finds leaves alone -/
def FZ (I I' : Nat → Nat → Int) : Prop := (∀ a, ¬ a = 2612 → ¬ a = 2644 → ¬ a = 1835 → ¬ a = 2676 → ¬ a = 2804 → ¬ a = 2740 → ¬ a = 2836 → ¬ a = 2868 → ¬ a = 2900 → ¬ a = 2932 → ¬ a = 2708 → ¬ a = 2996 → ¬ a = 3028 → ¬ a = 2772 → I' a = I a) ∧ (∀ k, ¬ k = 52 → ¬ k = 54 → ¬ k = 55 → ¬ k = 66 → ¬ k = 67 → I' 1835 k = I 1835 k) ∧ (I' 1835 52 = -1 ∨ I' 1835 52 = I 1835 52)
/-- the reference's graph of the text, and the distances -/
def RK (I : Nat → Nat → Int) (D : tD) (ho lo : Nat) : Prop := RB I D (acts D (-1)) (gAll D (acts D (-1)) ho lo) ∧ (gSp (gAll D (acts D (-1)) ho lo) = false → ∀ k, k < gN (gAll D (acts D (-1)) ho lo) → I 2772 k = dst D (gAll D (acts D (-1)) ho lo) k)
section
variable {sc : mS} {d : Nat} {t : zT} {I J : Nat → Nat → Int} {Q : zR → zW → Prop} {D : tD} {ho lo : Nat}
theorem RV.fld {k : Nat} {v : Int} (h : RV I D ho lo) (hk : 13 < k) : RV (z_u I 1835 k v) D ho lo := by
  refine ⟨h.1.fr (fun q hq => zu_nk (by omega)) (fun a ha => zu_ne (by omega)), fun S p q l z1 z2 z3 z4 z5 => ?_, h.2.2⟩
  rw [zu_ne (by decide : ¬ 2612 = 1835)]
  exact h.2.1 S p q l z1 z2 z3 z4 z5
theorem RB.fld {k act : Nat} {v : Int} {g : gS} (h : RB I D act g) (hk : ¬ k = 54 ∧ ¬ k = 55 ∧ ¬ k = 66) : RB (z_u I 1835 k v) D act g := ⟨h.1.to (fun q hq => zu_nk (by omega)) (fun a ha => zu_ne (by omega)), h.2.1, fun z i hi => by rw [zu_ne (by decide : ¬ 2708 = 1835)]; exact h.2.2 z i hi⟩
theorem k239 (hd : 7 ≤ d) (hV : RV I D ho lo) (hho : ho < 2147483648) (hlo : lo < 2147483648) (h67 : I 1835 67 = 0 ∨ (I 1835 67 = 1 ∧ RK I D ho lo))
    (h : ∀ I', FZ I I' → RV I' D ho lo → I' 1835 67 = 1 → RK I' D ho lo → Q (.inl (some (vi (if gSp (gAll D (acts D (-1)) ho lo) = true then 0 else 1)))) (z_cfg t, I', J)) :
    Go sc d mt_239 0 [vr 1835, vn] [] (z_cfg t, I, J) Q := by
  have hD := hV.2.2
  rcases h67 with z | ⟨z, hK⟩
  · refine b239_0 ?_
    rw [z]
    refine ⟨⟨by decide, by decide⟩, fun _ => ?_, fun c => absurd rfl c⟩
    have hV1 : RV (z_u I 1835 52 (-1)) D ho lo := hV.fld (by omega)
    refine c184 (by omega) (fun d' _ => k184 hV1.1 hD (fun r hr => ?_))
    refine b239_30 (c240 (by omega) (fun d' _ => k240 rfl (by omega) hV1 hr (Or.inl rfl) (zu_same _ _ _ _) hho hlo (fun I2 f2 hV2 hB2 => ?_)))
    have fz : ∀ I3 : Nat → Nat → Int, (∀ a, ¬ a = 2772 → I3 a = I2 a) → FZ I (z_u I3 1835 67 1) := by
      intro I3 f3
      refine ⟨fun a h1 h2 h3 h4 h5 h6 h7 h8 h9 h10 h11 h12 h13 h14 => ?_, fun k h1 h2 h3 h4 h5 => ?_, Or.inl ?_⟩
      · rw [zu_ne h3, f3 a h14, f2.1 a h1 h2 h3 h4 h5 h6 h7 h8 h9 h10 h11 h12 h13, zu_ne h3]
      · rw [zu_nk h5, f3 1835 (by decide), f2.2 k h2 h3 h4 h5, zu_nk h1]
      · rw [zu_nk (by decide), f3 1835 (by decide), f2.2 52 (by decide) (by decide) (by decide) (by decide), zu_same]
    cases hs : gSp (gAll D (acts D (-1)) ho lo) with
    | true =>
      rw [if_pos rfl]
      rw [hs, if_pos rfl] at h
      exact b239_33 ⟨⟨by decide, by decide⟩, fun _ => ⟨Or.inl rfl, h _ (fz I2 (fun _ _ => rfl)) (hV2.fld (by omega)) (zu_same _ _ _ _) ⟨hB2.fld ⟨by decide, by decide, by decide⟩, fun y => by rw [hs] at y; cases y⟩⟩, fun c => absurd rfl c⟩
    | false =>
      rw [if_neg (by decide)]
      rw [hs, if_neg (by decide)] at h
      refine b239_33 ⟨⟨by decide, by decide⟩, fun c => absurd c (by decide), fun _ => ?_⟩
      refine c250 (by omega) (fun d' _ => k250a (by omega) hV2 hB2 hs (fun I3 f3 f4 => ?_))
      refine b239_42 ⟨Or.inr rfl, h _ (fz I3 f3) ((hV2.row (A := 2772) (by omega) f3).fld (by omega)) (zu_same _ _ _ _) ⟨(hB2.to f3).fld ⟨by decide, by decide, by decide⟩, fun _ k hk => ?_⟩⟩
      rw [zu_ne (by decide : ¬ 2772 = 1835)]
      exact f4 k hk
  · refine b239_0 ?_
    rw [z]
    refine ⟨⟨by decide, by decide⟩, fun c => absurd c (by decide), fun _ => ?_⟩
    have hq := h I ⟨fun _ _ _ _ _ _ _ _ _ _ _ _ _ _ _ => rfl, fun _ _ _ _ _ _ => rfl, Or.inr rfl⟩ hV z hK
    rcases hK.1.1 with ⟨s1, s2, -⟩ | ⟨s1, s2⟩
    · rw [s1, if_pos rfl] at hq
      rw [s2]
      exact ⟨⟨by decide, by decide⟩, fun c => absurd c (by decide), fun _ => hq⟩
    · rw [s1, if_neg (by decide)] at hq
      rw [s2.1]
      exact ⟨⟨by decide, by decide⟩, fun _ => hq, fun c => absurd rfl c⟩
end
