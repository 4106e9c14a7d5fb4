/-! ===== the two readers: the reference's small readers ===== -/
/-- the reference's reader -/
def RP (I J : Nat → Nat → Int) (B : Nat → Nat) (n : Nat) (s : xT) : Prop := RBy I B ∧ n ≤ 700 ∧ ∃ p, p ≤ n ∧ RTk I J B n p ∧ match s with
  | .inl q => q = p ∧ I 1835 19 = 0 ∧ I 1835 20 = -1
  | .inr e => I 1835 19 = (e.1 : Int) ∧ I 1835 20 = (e.2 : Int) ∧ (1 ≤ e.1 ∧ e.1 ≤ 5) ∧ e.2 ≤ 700
def xGood (s : xT) : Bool := match s with
  | .inl _ => true
  | .inr _ => false
theorem xGood_l {s : xT} (h : xGood s = true) : ∃ p, s = .inl p := by
  cases s with
  | inl p => exact ⟨p, rfl⟩
  | inr e => cases h
theorem RTk.fr {I J I' J' : Nat → Nat → Int} {B : Nat → Nat} {n p : Nat} (h : RTk I J B n p) (f : ∀ k, (21 ≤ k ∧ k ≤ 27) → I' 1835 k = I 1835 k) (g : J' 1835 = J 1835) : RTk I' J' B n p := by
  unfold RTk
  rw [f 21 (by omega), f 22 (by omega), f 23 (by omega), f 24 (by omega), f 25 (by omega), f 26 (by omega), f 27 (by omega), g]
  exact h
theorem xgi (s : xT) : inR (((xGood s).toNat : Nat) : Int) := by
  cases s with
  | inl p => exact (⟨by decide, by decide⟩ : inR (1 : Int))
  | inr e => exact (⟨by decide, by decide⟩ : inR (0 : Int))
theorem xgn (p : Nat) : ¬ (((xGood (.inl p)).toNat : Nat) : Int) = 0 := (by decide : ¬ (1 : Int) = 0)
section
variable {sc : mS} {d : Nat} {t : zT} {I J : Nat → Nat → Int} {Q : zR → zW → Prop} {B : Nat → Nat} {n : Nat}
theorem RP.fr {I' J' : Nat → Nat → Int} {s : xT} (h : RP I J B n s) (f : ∀ k, (19 ≤ k ∧ k ≤ 27) → I' 1835 k = I 1835 k) (g : J' 1835 = J 1835) (e : I' 2196 = I 2196) : RP I' J' B n s := by
  obtain ⟨h1, h2, p, h3, h4, h5⟩ := h
  refine ⟨by unfold RBy; rw [e]; exact h1, h2, p, h3, h4.fr (fun k hk => f k (by omega)) g, ?_⟩
  cases s with
  | inl q => rw [f 19 (by omega), f 20 (by omega)]; exact h5
  | inr e => rw [f 19 (by omega), f 20 (by omega)]; exact h5
theorem RP.tk {s : xT} (h : RP I J B n s) : inR (I 1835 19) ∧ inR (I 1835 23) ∧ (0 ≤ I 1835 25 ∧ I 1835 25 ≤ 700) ∧ (0 ≤ I 1835 26 ∧ I 1835 26 ≤ 999) ∧ (0 ≤ I 1835 27 ∧ I 1835 27 < 256) := by
  obtain ⟨h1, h2, p, h3, h4, h5⟩ := h
  have a := xS_r (B := B) h3
  have b := xE_r (B := B) h3
  have c := xK_le B n p
  have e := bA_lt (p := xS B n p) h1 h2
  obtain ⟨g1, g2, g3, g4, g5, g6, g7, g8⟩ := h4
  refine ⟨?_, by rw [g3]; exact ⟨by omega, by omega⟩, by rw [g5]; omega, ?_, by rw [g7]; omega⟩
  · cases s with
    | inl q => rw [h5.2.1]; exact ⟨by decide, by decide⟩
    | inr e => have := h5.2.2.1; rw [h5.1]; exact ⟨by omega, by omega⟩
  · rw [g6]
    by_cases z : xK B n p = 2
    · have := xV_le z
      rw [if_pos z]; omega
    · rw [if_neg z]; omega
theorem k190s {p : Nat} (hd : 1 ≤ d) (h : RP I J B n (.inl p)) (hq : ∀ (I' J' : Nat → Nat → Int), yF I J I' J' → RP I' J' B n (xAdv B n (.inl p)) → Q (.inl none) (z_cfg t, I', J')) : Go sc d mt_190 0 [vr 1835, vn] [] (z_cfg t, I, J) Q := by
  obtain ⟨h1, h2, p', h3, h4, h5, h6, h7⟩ := h
  subst h5
  have b := xE_r (B := B) h3
  exact k190 hd h1 h2 h4.1 h4.2.1 b.2.1 (fun I' J' f g1 g2 c => hq I' J' f ⟨h1.fr f, h2, _, b.2.1, c, rfl, by rw [g1]; exact h6, by rw [g2]; exact h7⟩)
theorem k198 {s : xT} (h : RP I J B n s) (hq : Q (.inl (some (vi (((xGood s).toNat : Nat) : Int)))) (z_cfg t, I, J)) : Go sc d mt_198 0 [vr 1835] [] (z_cfg t, I, J) Q := by
  have hk := h.tk
  obtain ⟨h1, h2, p, h3, h4, h5⟩ := h
  cases s with
  | inl q => exact b198_0 ⟨hk.1, fun _ => hq, fun z => absurd h5.2.1 z⟩
  | inr e =>
    have e1 : I 1835 19 = (e.1 : Int) := h5.1
    have e2 : 1 ≤ e.1 ∧ e.1 ≤ 5 := h5.2.2.1
    exact b198_0 ⟨hk.1, fun z => by omega, fun _ => hq⟩
theorem k199 {x1 : Int} {f : Nat} {s : xT} (e1 : x1 = f) (hf : 1 ≤ f ∧ f ≤ 5) (h : RP I J B n s) (hq : ∀ (I' : Nat → Nat → Int), yF I J I' J → RP I' J B n (xFail B n f s) → Q (.inl none) (z_cfg t, I', J)) : Go sc d mt_199 0 [vr 1835, vi x1] [] (z_cfg t, I, J) Q := by
  subst e1
  have hk := h.tk
  have h0 := h
  obtain ⟨h1, h2, p, h3, h4, h5⟩ := h
  cases s with
  | inl q =>
    have a := xS_r (B := B) h3
    obtain ⟨h5, h6, h7⟩ := h5
    subst h5
    have f2 : yF I J (z_u (z_u I 1835 19 (f : Int)) 1835 20 ((xS B n q : Nat) : Int)) J := (yF.u (by omega)).tr (yF.u (by omega))
    refine b199_0 ⟨hk.1, fun _ => ?_, fun z => absurd h6 z⟩
    rw [h4.2.2.2.1]
    exact hq _ f2 ⟨h1.fr f2, h2, q, h3, h4.fr (fun k hk => by rw [zu_nk (by omega), zu_nk (by omega)]) rfl, by rw [zu_nk (by decide), zu_same], by rw [zu_same], hf, by show xS B n q ≤ 700; omega⟩
  | inr e =>
    have e1 : I 1835 19 = (e.1 : Int) := h5.1
    have e2 : 1 ≤ e.1 ∧ e.1 ≤ 5 := h5.2.2.1
    exact b199_0 ⟨hk.1, fun z => by omega, fun _ => hq I (yF.rf I J) h0⟩
theorem k200 {x1 : Int} {c : Nat} {s : xT} (e1 : x1 = c) (hc : c < 256) (h : RP I J B n s) (hq : ∀ b : Bool, ((∃ p, s = .inl p) → b = xIsG B n c s) → Q (.inl (some (vi ((b.toNat : Nat) : Int)))) (z_cfg t, I, J)) : Go sc d mt_200 0 [vr 1835, vi x1] [] (z_cfg t, I, J) Q := by
  subst e1
  have hk := h.tk
  obtain ⟨h1, h2, p, h3, h4, h5⟩ := h
  have yes : I 1835 23 = 3 → I 1835 27 = c → Q (.inl (some (vi 1))) (z_cfg t, I, J) := fun a b => by
    refine hq true (fun z => ?_)
    obtain ⟨q, z⟩ := z
    subst z
    obtain ⟨h5, _⟩ := h5
    subst h5
    have k3 : xK B n q = 3 := by have := h4.2.2.1; omega
    have hl := xK_lt (by rw [k3]; decide : ¬ xK B n q = 0)
    have e7 := h4.2.2.2.2.2.2.1
    unfold bA at e7
    rw [if_pos hl] at e7
    rw [xIsG_v, decide_eq_true (by omega)]
  have no : (¬ I 1835 23 = 3 ∨ ¬ I 1835 27 = c) → Q (.inl (some (vi 0))) (z_cfg t, I, J) := fun a => by
    refine hq false (fun z => ?_)
    obtain ⟨q, z⟩ := z
    subst z
    obtain ⟨h5, _⟩ := h5
    subst h5
    rw [xIsG_v, decide_eq_false]
    intro w
    have hl := xK_lt (by rw [w.1]; decide : ¬ xK B n q = 0)
    have e3 := h4.2.2.1
    have e7 := h4.2.2.2.2.2.2.1
    unfold bA at e7
    rw [if_pos hl] at e7
    omega
  exact b200_0 ⟨hk.2.1, fun c1 => ⟨⟨by omega, by omega⟩, ⟨by omega, by omega⟩, fun c2 => yes c1 c2, fun c2 => no (Or.inr c2)⟩, fun c1 => no (Or.inl c1)⟩
theorem k194 {s : xT} (hd : 2 ≤ d) (h : RP I J B n s) (hq : ∀ r : Int, (-1 ≤ r ∧ r < 21) → ((∃ p, s = .inl p) → ∀ k : Nat, k < 21 → (r = k ↔ xIsW B n k s = true)) → Q (.inl (some (vi r))) (z_cfg t, I, J)) : Go sc d mt_194 0 [vr 1835, vn] [] (z_cfg t, I, J) Q := by
  have hk := h.tk
  obtain ⟨h1, h2, p, h3, h4, h5⟩ := h
  have a := xS_r (B := B) h3
  have b := xE_r (B := B) h3
  have e23 := h4.2.2.1
  have e25 := h4.2.2.2.2.1
  have e28 := h4.2.2.2.2.2.2.2
  have fin : ∀ r : Int, (-1 ≤ r ∧ r < 21) → (∀ k : Nat, k < 21 → (r = k ↔ xW B n p k = true)) → Q (.inl (some (vi r))) (z_cfg t, I, J) := fun r hr hw => by
    refine hq r hr (fun z => ?_)
    obtain ⟨q, z⟩ := z
    subst z
    obtain ⟨h5, _⟩ := h5
    subst h5
    exact hw
  have none : (¬ xK B n p = 1 ∨ 6 < xE B n p - xS B n p) → Q (.inl (some (vi (-1)))) (z_cfg t, I, J) := fun z => by
    refine fin (-1) (by decide) (fun k hk2 => ⟨fun w => by omega, fun w => ?_⟩)
    have := xW_iff.1 w
    have := (wd_ok k hk2).2.2.1
    omega
  refine b194_0 ⟨hk.2.1, fun c1 => ⟨⟨by omega, by omega⟩, fun c2 => none (by omega), fun c2 => ?_⟩, fun c1 => none (by omega)⟩
  have k1 : xK B n p = 1 := by omega
  have hlen : xE B n p - xS B n p ≤ 6 := by omega
  rw [if_pos k1, show min 7 (xE B n p - xS B n p) = xE B n p - xS B n p by omega] at e28
  have hF : ∀ i, i < xE B n p - xS B n p → 97 ≤ B (xS B n p + i) ∧ B (xS B n p + i) ≤ 122 := fun i hi => xK1_l k1 (by omega) (by omega)
  have hlt : eW B (xS B n p) (xE B n p - xS B n p) < 32 ^ (xE B n p - xS B n p) := eW_lt _ (fun i hi => (hF i hi).2)
  have hp6 : 32 ^ (xE B n p - xS B n p) ≤ 32 ^ 6 := Nat.pow_le_pow_right (by omega) hlen
  have loop : ∀ (m k : Nat), k + m = 21 → (∀ j, j < k → xW B n p j = false) → Go sc d mt_194 21 [vr 1835, vi (k : Int)] [] (z_cfg t, I, J) Q := by
    intro m
    induction m with
    | zero =>
      intro k hk2 hj
      refine b194_21 ⟨⟨by omega, by omega⟩, fun z => by omega, fun _ => fin (-1) (by decide) (fun j hj2 => ⟨fun w => by omega, fun w => ?_⟩)⟩
      rw [hj j (by omega)] at w
      cases w
    | succ m ih =>
      intro k hk2 hj
      obtain ⟨w1, w2, w3, w4, w5⟩ := wd_ok k (by omega)
      have hG : ∀ i, i < (wds k).length → 97 ≤ (wds k).getD (0 + i) 0 ∧ (wds k).getD (0 + i) 0 ≤ 122 := fun i hi => by
        rw [Nat.zero_add]
        exact w5 i (by omega) hi
      have hltk : eWl (wds k) < 32 ^ (wds k).length := eW_lt _ (fun i hi => (hG i hi).2)
      have hpk : 32 ^ (wds k).length ≤ 32 ^ 6 := Nat.pow_le_pow_right (by omega) w3
      refine b194_21 ⟨⟨by omega, by omega⟩, fun _ => ?_, fun z => by omega⟩
      refine c195 (by omega) (fun d' _ => k195 rfl (by omega) (by omega) (b194_31 ?_))
      rw [e28]
      refine ⟨⟨⟨by omega, by omega⟩, ⟨by omega, by omega⟩⟩, fun c => ?_, fun c => ?_⟩
      · have ee : eWl (wds k) = eW B (xS B n p) (xE B n p - xS B n p) := by
          unfold zlc at c
          by_cases q1 : ((eWl (wds k) : Nat) : Int) < ((eW B (xS B n p) (xE B n p - xS B n p) : Nat) : Int)
          · rw [if_pos q1] at c; omega
          · rw [if_neg q1] at c
            by_cases q2 : ((eWl (wds k) : Nat) : Int) = ((eW B (xS B n p) (xE B n p - xS B n p) : Nat) : Int)
            · omega
            · rw [if_neg q2] at c; omega
        obtain ⟨i1, i2⟩ := eW_inj _ _ hF hG ee.symm
        have hw : xW B n p k = true := xW_iff.2 ⟨k1, i1, fun i hi => by have := i2 i (by omega); rw [Nat.zero_add] at this; exact this⟩
        refine fin k (by omega) (fun j hj2 => ⟨fun w => ?_, fun w => ?_⟩)
        · rw [show j = k by omega]
          exact hw
        · rw [xW_one (by omega) hj2 hw w]
      · rw [show (k : Int) + 1 = ((k + 1 : Nat) : Int) by omega]
        refine ih (k + 1) (by omega) (fun j hj2 => ?_)
        by_cases z : j = k
        · rw [z]
          refine b_no (fun w => c ?_)
          have w := xW_iff.1 w
          have ee : eWl (wds k) = eW B (xS B n p) (xE B n p - xS B n p) := by
            rw [w.2.1]
            have key : ∀ m, m ≤ (wds k).length → eW (fun i => (wds k).getD i 0) 0 m = eW B (xS B n p) m := by
              intro m
              induction m with
              | zero => intro _; rfl
              | succ q ihq =>
                intro hq2
                show eW (fun i => (wds k).getD i 0) 0 q * 32 + ((wds k).getD (0 + q) 0 - 96) = eW B (xS B n p) q * 32 + (B (xS B n p + q) - 96)
                rw [ihq (by omega), w.2.2 q (by omega), Nat.zero_add]
            exact key _ (Nat.le_refl _)
          rw [ee]
          unfold zlc
          rw [if_neg (by omega), if_pos rfl]
        · exact hj j (by omega)
  exact loop 21 0 (by omega) (fun j hj => absurd hj (by omega))
theorem k204 {x1 : Int} {k : Nat} {s : xT} (e1 : x1 = k) (hk : k < 21) (hd : 3 ≤ d) (h : RP I J B n s) (hq : ∀ (I' J' : Nat → Nat → Int), yF I J I' J' → RP I' J' B n (xNW B n k s) → Q (.inl none) (z_cfg t, I', J')) : Go sc d mt_204 0 [vr 1835, vi x1] [] (z_cfg t, I, J) Q := by
  subst e1
  refine b204_0 (c198 (by omega) (fun d' _ => k198 h (b204_4 ?_)))
  cases s with
  | inr e => exact ⟨xgi _, fun _ => hq I J (yF.rf I J) h, fun z => absurd rfl z⟩
  | inl p =>
    refine ⟨xgi _, fun z => absurd z (xgn _), fun _ => ?_⟩
    refine c194 (by omega) (fun d' _ => k194 (by omega) h (fun r hr hw => b204_12 ⟨⟨by omega, by omega⟩, ⟨by omega, by omega⟩, fun c => ?_, fun c => ?_⟩))
    · have w := (hw ⟨p, rfl⟩ k hk).1 c
      unfold xNW at hq
      rw [w, if_pos rfl] at hq
      exact c190 (by omega) (fun d' _ => k190s (by omega) h (fun I1 J1 f1 P1 => b204_20 (hq I1 J1 f1 P1)))
    · have w : ¬ xIsW B n k (.inl p) = true := fun w => c ((hw ⟨p, rfl⟩ k hk).2 w)
      unfold xNW at hq
      rw [if_neg w] at hq
      exact c199 (by omega) (fun d' _ => k199 (f := 1) rfl (by decide) h (fun I1 f1 P1 => b204_28 (hq I1 J f1 P1)))
theorem k197 {x1 x2 : Int} {lo hi : Nat} {s : xT} (e1 : x1 = lo) (e2 : x2 = hi) (hlo : lo ≤ 999) (hhi : hi ≤ 999) (hd : 2 ≤ d) (h : RP I J B n s) (hq : ∀ (I' J' : Nat → Nat → Int) (v : Nat), yF I J I' J' → RP I' J' B n (xNum B n lo hi s) → ((∃ p, xNum B n lo hi s = .inl p) → v = xVs B n s) → Q (.inl (some (vi (v : Int)))) (z_cfg t, I', J')) : Go sc d mt_197 0 [vr 1835, vi x1, vi x2, vn] [] (z_cfg t, I, J) Q := by
  subst e1 e2
  have hk := h.tk
  have bad : ∀ e, ¬ ∃ p : Nat, (Sum.inr e : xT) = .inl p := fun e z => by obtain ⟨p, z⟩ := z; cases z
  refine b197_0 (c198 (by omega) (fun d' _ => k198 h (b197_4 ?_)))
  cases s with
  | inr e => exact ⟨xgi _, fun _ => hq I J 0 (yF.rf I J) h (fun z => absurd z (bad e)), fun z => absurd rfl z⟩
  | inl p =>
    have h0 := h
    obtain ⟨h1, h2, p', h3, h4, h5, h6, h7⟩ := h
    subst h5
    have a := xS_r (B := B) h3
    have b := xE_r (B := B) h3
    have e23 := h4.2.2.1
    have e25 := h4.2.2.2.2.1
    have e26 := h4.2.2.2.2.2.1
    have end1 : ∀ (I1 : Nat → Nat → Int) (e : Nat × Nat), yF I J I1 J → RP I1 J B n (.inr e) → xNum B n lo hi (.inl p) = .inr e → Go sc d mt_197 54 [vr 1835, vi (lo : Int), vi (hi : Int), vn] [] (z_cfg t, I1, J) Q := fun I1 e f1 P1 hE => by
      have k1 := P1.tk
      refine b197_54 (c198 (by omega) (fun d' _ => k198 P1 (b197_63 ⟨xgi _, fun _ => ?_, fun z => absurd rfl z⟩)))
      obtain ⟨v, hv⟩ : ∃ v : Nat, I1 1835 26 = (v : Int) := ⟨(I1 1835 26).toNat, by omega⟩
      rw [hv]
      rw [hE] at hq
      exact hq I1 J v f1 P1 (fun z => absurd z (bad e))
    refine ⟨xgi _, fun z => absurd z (xgn _), fun _ => ⟨hk.2.1, fun c1 => ?_, fun c1 => ?_⟩⟩
    · have k2 : xK B n p = 2 := by omega
      rw [if_pos k2] at e26
      have hv := xV_le k2
      have badg : (3 < xE B n p - xS B n p ∨ xV B n p < lo ∨ hi < xV B n p) → Go sc d mt_197 49 [vr 1835, vi (lo : Int), vi (hi : Int), vn] [] (z_cfg t, I, J) Q := fun z =>
        b197_49 (c199 (by omega) (fun d' _ => k199 (f := 2) rfl (by decide) h0 (fun I1 f1 P1 => end1 I1 _ f1 P1 (xNum_2 k2 z))))
      rw [e26, e25]
      refine ⟨⟨by omega, by omega⟩, fun c2 => badg (by omega), fun c2 => ⟨⟨by omega, by omega⟩, ⟨by omega, by omega⟩, fun c3 => badg (by omega), fun c3 => ⟨⟨by omega, by omega⟩, fun c4 => badg (by omega), fun c4 => ?_⟩⟩⟩
      rw [xNum_3 k2 (by omega)] at hq
      refine b197_54 (c198 (by omega) (fun d' _ => k198 h0 (b197_63 ⟨xgi _, fun z => absurd z (xgn _), fun _ => ?_⟩)))
      rw [e26]
      exact c190 (by omega) (fun d' _ => k190s (by omega) h0 (fun I1 J1 f1 P1 => b197_70 (hq I1 J1 (xV B n p) f1 P1 (fun _ => rfl))))
    · have k2 : ¬ xK B n p = 2 := by omega
      exact c199 (by omega) (fun d' _ => k199 (f := 1) rfl (by decide) h0 (fun I1 f1 P1 => b197_22 (end1 I1 _ f1 P1 (xNum_1 k2))))
theorem k206 {x1 o : Int} {S : Nat} {s : xT} (e1 : x1 = o) (ho : inR o) (hS : I 1835 29 = S) (hS4 : 2 ≤ S ∧ S ≤ 4) (hd : 2 ≤ d) (h : RP I J B n s) (hq : ∀ (I' J' : Nat → Nat → Int) (v : Nat), yF I J I' J' → RP I' J' B n (xSho B n S o s) → ((∃ p, xSho B n S o s = .inl p) → v = xVs B n s) → v ≤ 999 → Q (.inl (some (vi (v : Int)))) (z_cfg t, I', J')) : Go sc d mt_206 0 [vr 1835, vi x1, vn] [] (z_cfg t, I, J) Q := by
  subst e1
  have hk := h.tk
  have bad : ∀ e, ¬ ∃ p : Nat, (Sum.inr e : xT) = .inl p := fun e z => by obtain ⟨p, z⟩ := z; cases z
  refine b206_0 (c198 (by omega) (fun d' _ => k198 h (b206_4 ?_)))
  cases s with
  | inr e => exact ⟨xgi _, fun _ => hq I J 0 (yF.rf I J) h (fun z => absurd z (bad e)) (by omega), fun z => absurd rfl z⟩
  | inl p =>
    have h0 := h
    obtain ⟨h1, h2, p', h3, h4, h5, h6, h7⟩ := h
    subst h5
    have a := xS_r (B := B) h3
    have b := xE_r (B := B) h3
    have e23 := h4.2.2.1
    have e25 := h4.2.2.2.2.1
    have e26 := h4.2.2.2.2.2.1
    have ev := xSho_v B n S x1 p
    have end1 : ∀ (I1 : Nat → Nat → Int) (e : Nat × Nat), yF I J I1 J → RP I1 J B n (.inr e) → xSho B n S x1 (.inl p) = .inr e → Go sc d mt_206 73 [vr 1835, vi x1, vn] [] (z_cfg t, I1, J) Q := fun I1 e f1 P1 hE => by
      have k1 := P1.tk
      refine b206_73 (c198 (by omega) (fun d' _ => k198 P1 (b206_82 ⟨xgi _, fun _ => ?_, fun z => absurd rfl z⟩)))
      obtain ⟨v, hv⟩ : ∃ v : Nat, I1 1835 26 = (v : Int) := ⟨(I1 1835 26).toNat, by omega⟩
      rw [hv]
      rw [hE] at hq
      exact hq I1 J v f1 P1 (fun z => absurd z (bad e)) (by omega)
    refine ⟨xgi _, fun z => absurd z (xgn _), fun _ => ⟨hk.2.1, fun c1 => ?_, fun c1 => ?_⟩⟩
    · have k2 : xK B n p = 2 := by omega
      rw [if_pos k2] at e26
      have hv := xV_le k2
      rw [if_neg (fun z => z k2)] at ev
      rw [e26, e25, hS]
      refine ⟨⟨by omega, by omega⟩, fun c2 => ?_, fun c2 => ⟨⟨by omega, by omega⟩, ⟨by omega, by omega⟩, fun c3 => ⟨ho, fun c4 => ?_, fun c4 => ?_⟩, fun c3 => ?_⟩⟩
      · rw [if_pos (by omega)] at ev
        exact c199 (by omega) (fun d' _ => k199 (f := 2) rfl (by decide) h0 (fun I1 f1 P1 => b206_38 (end1 I1 _ f1 P1 ev)))
      · rw [if_neg (by omega), if_neg (by omega), if_pos c4] at ev
        exact c199 (by omega) (fun d' _ => k199 (f := 5) rfl (by decide) h0 (fun I1 f1 P1 => end1 I1 _ f1 P1 ev))
      · rw [if_neg (by omega), if_neg (by omega), if_neg c4] at ev
        rw [ev] at hq
        refine b206_73 (c198 (by omega) (fun d' _ => k198 h0 (b206_82 ⟨xgi _, fun z => absurd z (xgn _), fun _ => ?_⟩)))
        rw [e26]
        exact c190 (by omega) (fun d' _ => k190s (by omega) h0 (fun I1 J1 f1 P1 => b206_89 (hq I1 J1 (xV B n p) f1 P1 (fun _ => rfl) hv)))
      · rw [if_neg (by omega), if_pos (by omega)] at ev
        exact c199 (by omega) (fun d' _ => k199 (f := 4) rfl (by decide) h0 (fun I1 f1 P1 => b206_57 (end1 I1 _ f1 P1 ev)))
    · have k2 : ¬ xK B n p = 2 := by omega
      rw [if_pos k2] at ev
      exact c199 (by omega) (fun d' _ => k199 (f := 1) rfl (by decide) h0 (fun I1 f1 P1 => b206_22 (end1 I1 _ f1 P1 ev)))
end
