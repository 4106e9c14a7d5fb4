/-! ===== the class: whether a crossing leads to hope ===== -/
section
variable {sc : mS} {d : Nat} {t : zT} {I J : Nat → Nat → Int} {Q : zR → zW → Prop} {D : tD}
theorem k70 {x1 : Int} {j : Nat} (e1 : x1 = j) (hj : j < 2000) (h : Q (.inl (some (vi (I 1460 j)))) (z_cfg t, I, J)) : Go sc d mt_70 0 [vr 1283, vi x1] [] (z_cfg t, I, J) Q := by
  subst e1
  refine b70_0 ?_
  rw [Int.toNat_natCast]
  exact ⟨⟨by omega, by omega⟩, fun c => by omega, fun _ => ⟨fun _ => h, fun c => by omega⟩⟩
/-- the edge as four numbers -/
theorem k64g {x0 : Int} {act e : Nat} {g : gS} (e0 : x0 = ecC (gE g e)) (hD : dOk D) (hO : gOk D act g) (he : e < gM g) (h : Q (.inl (some (vi (((gE g e).2.2.2 : Nat) : Int)))) (z_cfg t, I, J)) : Go sc d mt_64 0 [vi x0] [] (z_cfg t, I, J) Q := by
  have hq := hO.2.2.2.2.2 e he
  have hN := hO.1.1
  have hA := dAll_lt hD
  have hB := hD.2.2.1
  have hS4 := hD.1
  exact k64 (b := (gE g e).1) (p := (gE g e).2.1) (S := (gE g e).2.2.1) (j := (gE g e).2.2.2) e0 (by omega) (by omega) (by omega) (by omega) h
theorem k150 {x2 : Int} {act k : Nat} {g : gS} {W : Nat → Bool} (e2 : x2 = k) (hd : 1 ≤ d) (hG : GB t I D act g) (hs : gSp g = false) (hF : ∀ i, i < gN g → gF g i ≤ gF g (i + 1) ∧ gF g (i + 1) ≤ gM g) (hk : k < gN g) (hW : ∀ j, j < gN g → I 1460 j = ((W j).toNat : Nat)) (h : Q (.inl (some (vi (((anyE g k W).toNat : Nat) : Int)))) (z_cfg t, I, J)) : Go sc d mt_150 0 [vr 1283, vr 1057, vi x2, vn] [] (z_cfg t, I, J) Q := by
  subst e2
  have hO := hG.2.2.2.2.1
  have hM := hO.2.1
  have hN := hO.1.1
  have hFk := hF k hk
  have loop : ∀ (m e : Nat), e + m = gF g (k + 1) → anyE g k W = (List.range' e m).any (fun e => W (gE g e).2.2.2) → Go sc d mt_150 6 [vr 1283, vr 1057, vi (k : Int), vi (e : Int)] [] (z_cfg t, I, J) Q := by
    intro m
    induction m with
    | zero =>
      intro e he ha
      have ha : anyE g k W = false := ha
      rw [ha] at h
      refine b150_6 (c62 hd (fun d' _ => k62 (k := k + 1) (by omega) hG hs (by omega) ?_))
      exact b150_14 ⟨⟨by omega, by omega⟩, ⟨by omega, by omega⟩, fun c => by omega, fun _ => h⟩
    | succ m ih =>
      intro e he ha
      have hj := (hO.2.2.2.2.2 e (by omega)).2.2.2
      refine b150_6 (c62 hd (fun d' _ => k62 (k := k + 1) (by omega) hG hs (by omega) ?_))
      refine b150_14 ⟨⟨by omega, by omega⟩, ⟨by omega, by omega⟩, fun _ => ?_, fun c => by omega⟩
      refine c63 hd (fun d' _ => k63 rfl hG hs (by omega) ?_)
      refine b150_23 (c64 hd (fun d' _ => k64g rfl hG.2.2.1 hO (by omega) ?_))
      refine b150_26 (c70 hd (fun d' _ => k70 rfl (by omega) ?_))
      rw [hW _ hj]
      rw [rng_cons, List.any_cons] at ha
      cases hw : W (gE g e).2.2.2 with
      | true =>
        rw [hw, Bool.true_or] at ha
        rw [ha] at h
        exact b150_29 ⟨⟨by decide, by decide⟩, fun _ => h, fun c => absurd (by decide) c⟩
      | false =>
        rw [hw, Bool.false_or] at ha
        refine b150_29 ⟨⟨by decide, by decide⟩, fun c => absurd c (by decide), fun _ => ?_⟩
        rw [show (e : Int) + 1 = ((e + 1 : Nat) : Int) by omega]
        exact ih (e + 1) (by omega) ha
  refine b150_0 (c62 hd (fun d' _ => k62 rfl hG hs (by omega) ?_))
  exact b150_5 (loop (gF g (k + 1) - gF g k) (gF g k) (by omega) rfl)
end
