/-! ===== the reference: seeks ===== -/
/-- what explores and measures leave alone -/
def FY (I I' : Nat → Nat → Int) : Prop := ∃ Im, FX I Im ∧ ∀ a, ¬ a = 2772 → I' a = Im a
/-- what both sides answer for a graph -/
def ansG (D : tD) (g : gS) : Int := if gSp g = true then -2 else gg D (gX g) (gDp g) (gN g)
section
variable {sc : mS} {d : Nat} {t : zT} {I J : Nat → Nat → Int} {Q : zR → zW → Prop} {D : tD} {ho lo : Nat}
theorem RB.to {I' : Nat → Nat → Int} {act : Nat} {g : gS} (h : RB I D act g) (hf : ∀ a, ¬ a = 2772 → I' a = I a) : RB I' D act g := ⟨h.1.to (fun q _ => by rw [hf 1835 (by decide)]) (fun a ha => hf a (by omega)), h.2.1, fun z i hi => by rw [hf 2708 (by decide)]; exact h.2.2 z i hi⟩
theorem RB.F {w : Int} (hB : RB I D (acts D w) (gAll D (acts D w) ho lo)) (hs : gSp (gAll D (acts D w) ho lo) = false) : (∀ i, i < gN (gAll D (acts D w) ho lo) → gF (gAll D (acts D w) ho lo) i ≤ gF (gAll D (acts D w) ho lo) (i + 1) ∧ gF (gAll D (acts D w) ho lo) (i + 1) ≤ gM (gAll D (acts D w) ho lo)) ∧ tgOk (gAll D (acts D w) ho lo) := by
  have hF := gAll_F hs hB.2.1
  exact ⟨hF, gOk_tg hB.2.1 hF⟩
/-- measures, of the whole graph -/
theorem k250a {w : Int} (hd : 2 ≤ d) (hV : RV I D ho lo) (hB : RB I D (acts D w) (gAll D (acts D w) ho lo)) (hs : gSp (gAll D (acts D w) ho lo) = false)
    (h : ∀ I', (∀ a, ¬ a = 2772 → I' a = I a) → (∀ k, k < gN (gAll D (acts D w) ho lo) → I' 2772 k = dst D (gAll D (acts D w) ho lo) k) → Q (.inl none) (z_cfg t, I', J)) :
    Go sc d mt_250 0 [vr 1835, vn, vn, vn, vn, vn] [] (z_cfg t, I, J) Q := by
  obtain ⟨hF, hT⟩ := hB.F hs
  refine k250 hd hV hB hs hF (fun I' n h1 h2 h3 => h I' h1 (fun k hk => ?_))
  rw [h2 k hk]
  exact dst_of hT hB.2.1.1.1 h3 k hk
theorem k264 {x1 w : Int} {r : Nat} (e1 : x1 = r) (hd : 7 ≤ d) (hV : RV I D ho lo) (hr : SR (dStart D) r) (hwo : wOk D w) (hw : I 1835 52 = w) (hho : ho < 2147483648) (hlo : lo < 2147483648)
    (h : ∀ I', FY I I' → RV I' D ho lo → RB I' D (acts D w) (gAll D (acts D w) ho lo) → (gSp (gAll D (acts D w) ho lo) = false → ∀ k, k < gN (gAll D (acts D w) ho lo) → I' 2772 k = dst D (gAll D (acts D w) ho lo) k) → Q (.inl (some (vi (ansG D (gAll D (acts D w) ho lo))))) (z_cfg t, I', J)) :
    Go sc d mt_264 0 [vr 1835, vi x1] [] (z_cfg t, I, J) Q := by
  refine b264_0 (c240 (by omega) (fun d' _ => k240 e1 (by omega) hV hr hwo hw hho hlo (fun I1 f1 hV1 hB1 => ?_)))
  cases hs : gSp (gAll D (acts D w) ho lo) with
  | true =>
    have e : ansG D (gAll D (acts D w) ho lo) = -2 := by unfold ansG; rw [if_pos hs]
    rw [if_pos rfl]
    refine b264_5 ⟨⟨by decide, by decide⟩, fun _ => ?_, fun c => absurd rfl c⟩
    have := h I1 ⟨I1, f1, fun _ _ => rfl⟩ hV1 hB1 (fun z => by rw [hs] at z; cases z)
    rw [e] at this
    exact this
  | false =>
    rw [if_neg (by decide)]
    refine b264_5 ⟨⟨by decide, by decide⟩, fun c => absurd c (by decide), fun _ => ?_⟩
    refine c250 (by omega) (fun d' _ => k250a (by omega) hV1 hB1 hs (fun I2 f2 f3 => ?_))
    refine b264_15 ?_
    have e : ansG D (gAll D (acts D w) ho lo) = dst D (gAll D (acts D w) ho lo) 0 := by
      unfold ansG
      rw [if_neg (by rw [hs]; decide)]
      exact gg_dst hs hB1.2.1
    have := h I2 ⟨I1, f1, f2⟩ (hV1.row (A := 2772) (by omega) f2) (hB1.to f2) (fun _ => f3)
    rw [e] at this
    rw [f3 0 hB1.2.1.1.2]
    exact this
end
