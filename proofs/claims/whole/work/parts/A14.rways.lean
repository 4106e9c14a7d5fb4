/-! ===== how many shortest ways: pure, and the reference's ways ===== -/
def cw (D : tD) (g : gS) (T : Nat → Int) (f : Nat) : Nat → Int := match f with
  | 0 => fun _ => 1
  | f + 1 => fun k => wSum D g false T (cw D g T f) k (eL0 g k) 0
theorem cw_in {D : tD} {g : gS} {T : Nat → Int} : ∀ (f k : Nat), 0 ≤ cw D g T f k ∧ cw D g T f k ≤ 1000000000 := by
  intro f
  induction f with
  | zero => intro k; exact (⟨by decide, by decide⟩ : (0 : Int) ≤ 1 ∧ (1 : Int) ≤ 1000000000)
  | succ f ih => intro k; exact wSum_in (eL0 g k) 0 (fun e _ _ => (ih _).1) (Int.le_refl _) (by decide)
/-- what the class has counted -/
theorem WC_cw {D : tD} {g : gS} {T L wc : Nat → Int} {s : Nat} (hTg : tgOk g) (hM : MG D g false T s L) (hW : ∀ k, k < gN g → WC D g false T s L wc k) : ∀ (f k : Nat), k < gN g → onW T L s k → T k = (f : Int) → wc k = cw D g T f k := by
  intro f
  induction f with
  | zero => intro k hk hon hf; exact ((hW k hk).1 hon).2.2.1 hf
  | succ f ih =>
    intro k hk hon hf
    rw [((hW k hk).1 hon).2.2.2 (by omega)]
    refine wSum_cg _ _ (fun e he t1 t2 => ?_)
    have he := mem_eL0.mp he
    have hst := (on_step hTg hM hk hon he).mp ⟨t1, t2⟩
    have t2 : T (tg g e) + 1 = T k := t2
    exact ih (tg g e) (hTg k hk e he.1 he.2) hst.1 (by omega)
theorem wSum_app {D : tD} {g : gS} {tm : Bool} {T wc : Nat → Int} {k : Nat} (l : List Nat) (e : Nat) (a : Int) : wSum D g tm T wc k (l ++ [e]) a = if 0 ≤ T (tg g e) ∧ T (tg g e) + wE D tm g e = T k then wadd (wSum D g tm T wc k l a) (wc (tg g e)) else wSum D g tm T wc k l a := by
  unfold wSum
  rw [List.foldl_append]
  rfl
theorem rng_app (a m : Nat) : List.range' a (m + 1) = List.range' a m ++ [a + m] := by
  rw [List.range'_concat, Nat.one_mul]
section
variable {sc : mS} {d : Nat} {t : zT} {I J : Nat → Nat → Int} {Q : zR → zW → Prop} {D : tD} {ho lo : Nat}
theorem RQ.row {T : Nat → Int} {g : gS} {I' : Nat → Nat → Int} (h : RQ I T g) (f : ∀ a, ¬ a = 3220 → I' a = I a) : RQ I' T g := by
  unfold RQ
  rw [f 1835 (by decide), f 2772 (by decide), f 2708 (by decide), f 2836 (by decide), f 2868 (by decide), f 2900 (by decide), f 2932 (by decide), f 2676 (by decide)]
  exact h
theorem k258 (hd : 8 ≤ d) (hV : RV I D ho lo) (hho : ho < 2147483648) (hlo : lo < 2147483648) (h67 : I 1835 67 = 0 ∨ (I 1835 67 = 1 ∧ RK I D ho lo)) (g : gS) (hg : g = gAll D (acts D (-1)) ho lo) (T : Nat → Int) (hTd : T = dst D g)
    (h : ∀ (I' I1 : Nat → Nat → Int), FZ (z_u I 1835 0 0) I1 → (∀ a, ¬ a = 3220 → I' a = I1 a) → RV I1 D ho lo → I1 1835 67 = 1 → RK I1 D ho lo → Q (.inl (some (vi (if gSp g = true then -2 else if T 0 = -1 then 0 else cw D g T (T 0).toNat 0)))) (z_cfg t, I', J)) :
    Go sc d mt_258 0 [vr 1835, vn, vn, vn] [] (z_cfg t, I, J) Q := by
  have hD := hV.2.2
  refine b258_0 (c239 (by omega) (fun d' _ => k239 (by omega) hV.f0 hho hlo (h67_f0 h67) (fun I1 f1 hV1 h1 hK1 => ?_)))
  rw [← hg]
  have hq := fun I' f => h I' I1 f1 f hV1 h1 hK1
  cases hs : gSp g with
  | true =>
    rw [hs, if_pos rfl] at hq
    rw [if_pos rfl]
    exact b258_9 ⟨⟨by decide, by decide⟩, fun _ => hq I1 (fun _ _ => rfl), fun c => absurd rfl c⟩
  | false =>
    rw [hs, if_neg (by decide)] at hq
    rw [if_neg (by decide)]
    have hs' := hs
    rw [hg] at hs'
    have hQ := hK1.q hs'
    rw [← hg, ← hTd] at hQ
    have hO : gOk D (acts D (-1)) g := by rw [hg]; exact hK1.1.2.1
    have hFT := RB.F hK1.1 hs'
    rw [← hg] at hFT
    obtain ⟨hF, hTg⟩ := hFT
    have hN := hO.1
    have hM := hO.2.1
    have hdr : ∀ k, k < gN g → -1 ≤ T k ∧ T k ≤ 2000 := fun k hk => by rw [hTd]; exact dst_in hTg hN.1 hk
    clear hTd
    refine b258_9 ⟨⟨by decide, by decide⟩, fun c => absurd c (by decide), fun _ => ?_⟩
    have hd0 := hdr 0 (by omega)
    rw [hQ.2.1 0 (by omega)]
    refine ⟨⟨by omega, by omega⟩, fun c => ?_, fun c => ?_⟩
    · rw [if_pos c] at hq
      exact hq I1 (fun _ _ => rfl)
    · rw [if_neg c] at hq
      -- the crossings of one state
      have edges : ∀ (dd k : Nat), k < gN g → T k = ((dd + 1 : Nat) : Int) → (∀ (I3 : Nat → Nat → Int) (v3 : zV), (∀ a, ¬ a = 3220 → I3 a = I1 a) → (∀ y, y < gN g → 0 ≤ T y → (T y < ((dd + 1 : Nat) : Int) ∨ (T y = ((dd + 1 : Nat) : Int) ∧ y < k + 1)) → I3 3220 y = cw D g T (T y).toNat y) → Go sc d mt_258 180 [vr 1835, vi ((dd + 1 : Nat) : Int), vi (k : Int), v3] [] (z_cfg t, I3, J) Q) →
          ∀ (m n : Nat) (I2 : Nat → Nat → Int), gF g k + n + m = gF g (k + 1) → (∀ a, ¬ a = 3220 → I2 a = I1 a) → (∀ y, y < gN g → 0 ≤ T y → (T y < ((dd + 1 : Nat) : Int) ∨ (T y = ((dd + 1 : Nat) : Int) ∧ y < k)) → I2 3220 y = cw D g T (T y).toNat y) → I2 3220 k = wSum D g false T (cw D g T dd) k (List.range' (gF g k) n) 0 → Go sc d mt_258 84 [vr 1835, vi ((dd + 1 : Nat) : Int), vi (k : Int), vi ((gF g k + n : Nat) : Int)] [] (z_cfg t, I2, J) Q := by
        intro dd k hk hTk hend m
        have hFk := hF k hk
        have hdk := hdr k hk
        induction m with
        | zero =>
          intro n I2 hm f2 hw hwk
          have hQ2 := hQ.row f2
          refine b258_84 ?_
          rw [show ((k : Int) + 1).toNat = k + 1 by omega, hQ2.2.2.1 (k + 1) (by omega)]
          refine ⟨⟨by omega, by omega⟩, ⟨by omega, by omega⟩, ⟨by omega, by omega⟩, fun z => by omega, fun _ => hend I2 _ f2 (fun y hy h0 hor => ?_)⟩
          by_cases q : y = k
          · subst q
            rw [hwk, show (T y).toNat = dd + 1 by omega]
            show _ = wSum D g false T (cw D g T dd) y (eL0 g y) 0
            unfold eL0
            rw [show gF g (y + 1) - gF g y = n by omega]
          · exact hw y hy h0 (by omega)
        | succ m ih =>
          intro n I2 hm f2 hw hwk
          have hQ2 := hQ.row f2
          have hin : eIn g k (gF g k + n) := ⟨by omega, by omega⟩
          have hzN : tg g (gF g k + n) < gN g := hTg k hk _ hin.1 hin.2
          have hdz := hdr _ hzN
          obtain ⟨a1, a2, a3, a4⟩ := hQ2.2.2.2.1 (gF g k + n) (by omega)
          have hin0 := wSum_in (D := D) (g := g) (tm := false) (T := T) (wc := cw D g T dd) (k := k) (List.range' (gF g k) n) 0 (fun e _ _ => (cw_in dd _).1) (Int.le_refl _) (by decide)
          have nx : ∀ (I3 : Nat → Nat → Int), (∀ a, ¬ a = 3220 → I3 a = I1 a) → (∀ y, ¬ y = k → I3 3220 y = I2 3220 y) → I3 3220 k = wSum D g false T (cw D g T dd) k (List.range' (gF g k) (n + 1)) 0 → Go sc d mt_258 174 [vr 1835, vi ((dd + 1 : Nat) : Int), vi (k : Int), vi ((gF g k + n : Nat) : Int)] [] (z_cfg t, I3, J) Q := by
            intro I3 f3 g3 hk3
            refine b258_174 ?_
            rw [show ((gF g k + n : Nat) : Int) + 1 = ((gF g k + (n + 1) : Nat) : Int) by omega]
            refine ih (n + 1) I3 (by omega) f3 (fun y hy h0 hor => ?_) hk3
            rw [g3 y (fun z => by rw [z] at hor; omega)]
            exact hw y hy h0 hor
          have hnext := wSum_app (D := D) (g := g) (tm := false) (T := T) (wc := cw D g T dd) (k := k) (List.range' (gF g k) n) (gF g k + n) 0
          rw [← rng_app] at hnext
          have wE1 : wE D false g (gF g k + n) = 1 := rfl
          rw [wE1] at hnext
          refine b258_84 ?_
          rw [show ((k : Int) + 1).toNat = k + 1 by omega, hQ2.2.2.1 (k + 1) (by omega), Int.toNat_natCast, a4, Int.toNat_natCast, hQ2.2.1 _ hzN, Int.toNat_natCast, hwk]
          refine ⟨⟨by omega, by omega⟩, ⟨by omega, by omega⟩, ⟨by omega, by omega⟩, fun _ => ⟨⟨by omega, by omega⟩, fun _ => ⟨⟨by omega, by omega⟩, ⟨by omega, by omega⟩, ⟨by omega, by omega⟩, ⟨by omega, by omega⟩, fun c2 => ?_, fun c2 => ?_⟩, fun z => by omega⟩, fun z => by omega⟩
          · have hz := hw _ hzN (by omega) (Or.inl (by omega))
            rw [show (T (tg g (gF g k + n))).toNat = dd by omega] at hz
            have hzi := cw_in (D := D) (g := g) (T := T) dd (tg g (gF g k + n))
            rw [hz]
            rw [if_pos ⟨by omega, by omega⟩] at hnext
            have put : ∀ v : Int, v = wSum D g false T (cw D g T dd) k (List.range' (gF g k) (n + 1)) 0 → Go sc d mt_258 173 [vr 1835, vi ((dd + 1 : Nat) : Int), vi (k : Int), vi ((gF g k + n : Nat) : Int)] [vi v, vi (k : Int), vr 3220] (z_cfg t, I2, J) Q := by
              intro v hv
              refine b258_173 ⟨⟨by omega, by omega⟩, ?_⟩
              rw [Int.toNat_natCast]
              exact nx _ (fun a ha => by rw [zu_ne ha]; exact f2 a ha) (fun y hy => zu_nk hy) (by rw [zu_same]; exact hv)
            refine ⟨⟨by omega, by omega⟩, ⟨by omega, by omega⟩, ⟨by omega, by omega⟩, fun c3 => put _ ?_, fun c3 => put _ ?_⟩
            · rw [hnext]; unfold wadd; rw [if_pos (by omega)]
            · rw [hnext]; unfold wadd; rw [if_neg (by omega)]
          · rw [if_neg (fun z => c2 (by omega))] at hnext
            exact nx I2 f2 (fun _ _ => rfl) (by rw [hnext]; exact hwk)
      have states : ∀ (dd : Nat), (dd : Int) ≤ T 0 → (∀ (I3 : Nat → Nat → Int) (v2 v3 : zV), (∀ a, ¬ a = 3220 → I3 a = I1 a) → (∀ y, y < gN g → 0 ≤ T y → T y < ((dd + 1 : Nat) : Int) → I3 3220 y = cw D g T (T y).toNat y) → Go sc d mt_258 29 [vr 1835, vi ((dd + 1 : Nat) : Int), v2, v3] [] (z_cfg t, I3, J) Q) → ∀ (m k : Nat) (I2 : Nat → Nat → Int) (v3 : zV), k + m = gN g → (∀ a, ¬ a = 3220 → I2 a = I1 a) → (∀ y, y < gN g → 0 ≤ T y → (T y < (dd : Int) ∨ (T y = (dd : Int) ∧ y < k)) → I2 3220 y = cw D g T (T y).toNat y) → Go sc d mt_258 41 [vr 1835, vi (dd : Int), vi (k : Int), v3] [] (z_cfg t, I2, J) Q := by
        intro dd hdd hend m
        induction m with
        | zero =>
          intro k I2 v3 hm f2 hw
          have hQ2 := hQ.row f2
          refine b258_41 ?_
          rw [hQ2.1, show (dd : Int) + 1 = ((dd + 1 : Nat) : Int) by omega]
          exact ⟨⟨by omega, by omega⟩, ⟨by omega, by omega⟩, fun z => by omega, fun _ => hend I2 _ _ f2 (fun y hy h0 hlt => hw y hy h0 (by omega))⟩
        | succ m ih =>
          intro k I2 v3 hm f2 hw
          have hQ2 := hQ.row f2
          have hk : k < gN g := by omega
          have hFk := hF k hk
          have hdk := hdr k hk
          have nx : ∀ (I3 : Nat → Nat → Int) (w3 : zV), (∀ a, ¬ a = 3220 → I3 a = I1 a) → (∀ y, y < gN g → 0 ≤ T y → (T y < (dd : Int) ∨ (T y = (dd : Int) ∧ y < k + 1)) → I3 3220 y = cw D g T (T y).toNat y) → Go sc d mt_258 180 [vr 1835, vi (dd : Int), vi (k : Int), w3] [] (z_cfg t, I3, J) Q := by
            intro I3 w3 f3 hw3
            refine b258_180 ?_
            rw [show (k : Int) + 1 = ((k + 1 : Nat) : Int) by omega]
            exact ih (k + 1) I3 _ (by omega) f3 hw3
          have begin0 : ∀ v : Int, T k = (dd : Int) → v = (if dd = 0 then 1 else 0) → Go sc d mt_258 76 [vr 1835, vi (dd : Int), vi (k : Int), v3] [vi v, vi (k : Int), vr 3220] (z_cfg t, I2, J) Q := by
            intro v hTk hv
            refine b258_76 ⟨⟨by omega, by omega⟩, ⟨by omega, by omega⟩, ?_⟩
            rw [Int.toNat_natCast, hQ2.2.2.1 k (by omega)]
            have f3 : ∀ a, ¬ a = 3220 → z_u I2 3220 k v a = I1 a := fun a ha => by rw [zu_ne ha]; exact f2 a ha
            have hQ3 := hQ.row f3
            cases dd with
            | zero =>
              have fin := nx (z_u I2 3220 k v) (vi ((gF g k : Nat) : Int)) f3 (fun y hy h0 hor => by
                rw [zu_at]
                by_cases q : y = k
                · rw [if_pos q, hv, q, hTk]; rfl
                · rw [if_neg q]; exact hw y hy h0 (by omega))
              refine b258_84 ?_
              rw [show ((k : Int) + 1).toNat = k + 1 by omega, hQ3.2.2.1 (k + 1) (by omega)]
              exact ⟨⟨by omega, by omega⟩, ⟨by omega, by omega⟩, ⟨by omega, by omega⟩, fun _ => ⟨⟨by decide, by decide⟩, fun z => absurd z (by decide), fun _ => fin⟩, fun _ => fin⟩
            | succ dd =>
              have := edges dd k hk hTk (fun I3 w3 a b => nx I3 w3 a b) (gF g (k + 1) - gF g k) 0 (z_u I2 3220 k v) (by omega) f3 (fun y hy h0 hor => by
                rw [zu_nk (fun z => by rw [z] at hor; omega)]
                exact hw y hy h0 hor) (by rw [zu_same, hv]; rfl)
              exact this
          refine b258_41 ?_
          rw [hQ2.1, Int.toNat_natCast, hQ2.2.1 k hk]
          refine ⟨⟨by omega, by omega⟩, ⟨by omega, by omega⟩, fun _ => ⟨⟨by omega, by omega⟩, ⟨by omega, by omega⟩, ⟨by omega, by omega⟩, fun c2 => ⟨fun c3 => begin0 1 c2 (by rw [if_pos (by omega)]), fun c3 => begin0 0 c2 (by rw [if_neg (by omega)])⟩, fun c2 => nx I2 _ f2 (fun y hy h0 hor => hw y hy h0 (by
            rcases hor with q | ⟨q1, q2⟩
            · exact Or.inl q
            · refine Or.inr ⟨q1, ?_⟩
              by_cases q3 : y = k
              · rw [q3] at q1; exact absurd q1 c2
              · omega))⟩, fun z => by omega⟩
      have outer : ∀ (m dd : Nat) (I2 : Nat → Nat → Int) (v2 v3 : zV), (dd : Int) + m = T 0 + 1 → (∀ a, ¬ a = 3220 → I2 a = I1 a) → (∀ y, y < gN g → 0 ≤ T y → T y < (dd : Int) → I2 3220 y = cw D g T (T y).toNat y) → Go sc d mt_258 29 [vr 1835, vi (dd : Int), v2, v3] [] (z_cfg t, I2, J) Q := by
        intro m
        induction m with
        | zero =>
          intro dd I2 v2 v3 hm f2 hw
          have hQ2 := hQ.row f2
          have := hq I2 f2
          refine b258_29 ?_
          rw [hQ2.2.1 0 (by omega), hw 0 (by omega) (by omega) (by omega)]
          exact ⟨⟨by omega, by omega⟩, ⟨by omega, by omega⟩, fun _ => this, fun z => by omega⟩
        | succ m ih =>
          intro dd I2 v2 v3 hm f2 hw
          have hQ2 := hQ.row f2
          refine b258_29 ?_
          rw [hQ2.2.1 0 (by omega)]
          refine ⟨⟨by omega, by omega⟩, ⟨by omega, by omega⟩, fun z => by omega, fun _ => ?_⟩
          exact states dd (by omega) (fun I3 w2 w3 f3 hw3 => ih (dd + 1) I3 _ _ (by omega) f3 hw3) (gN g) 0 I2 _ (by omega) f2 (fun y hy h0 hor => hw y hy h0 (by omega))
      exact outer (T 0 + 1).toNat 0 I1 _ _ (by omega) (fun _ _ => rfl) (fun y _ h0 hlt => by omega)
end
