/-! ===== expressions, the class: parts, rows, not ===== -/
def pvR (r : pX) : xT := match r with
  | .inl e => .inr e
  | .inr r => .inl r.2
def pvQ (r : pX) : List Int := match r with
  | .inl _ => []
  | .inr r => r.1
theorem pvS_l (g : Nat → pX) (p : Nat) : pvS g (.inl p) = pvR (g p) ∧ pvC g (.inl p) = pvQ (g p) := ⟨rfl, rfl⟩
def XC (sc : mS) (t : zT) (J : Nat → Nat → Int) (B : Nat → Nat) (n : Nat) (D : tD) (d0 : Nat) (M : mM) (ls : List zV) (g : Nat → pX) : Prop := ∀ (d : Nat) (I : Nat → Nat → Int) (s : xT) (base : Nat) (C0 : List Int) (Q : zR → zW → Prop), d0 ≤ d → CP I B n s → CZ I (t_eb t) base → CL I (t_eb t) D → (∀ p, s = .inl p → CK I (t_eb t) base C0 ∧ base + C0.length ≤ p) →
  (∀ (I' : Nat → Nat → Int), xFe I I' (t_eb t) base → CP I' B n (pvS g s) → CZ I' (t_eb t) base → (∀ q, pvS g s = .inl q → CK I' (t_eb t) base (C0 ++ pvC g s)) → Q (.inl none) (z_cfg t, I', J)) → Go sc d M 0 ls [] (z_cfg t, I, J) Q
section
variable {sc : mS} {d : Nat} {t : zT} {I J : Nat → Nat → Int} {Q : zR → zW → Prop} {B : Nat → Nat} {n : Nat} {D : tD} {base : Nat}
theorem xIsW_v (k p : Nat) : xIsW B n k (.inl p) = xW B n p k := rfl
theorem CP.le {p : Nat} (h : CP I B n (.inl p)) : p ≤ n ∧ n ≤ 700 := ⟨h.2.2.1, h.2.1⟩
theorem k129 {d0 L : Nat} {x : Int} {sub : Nat → pX} (hd0 : 5 ≤ d0) (hL : L ≤ 4) (hg : GL n sub) (h : XC sc t J B n D d0 mt_120 [vr 805, vi ((L : Int) + 1), vi x] sub) : XC sc t J B n D (d0 + 1) mt_129 [vr 805, vi (L : Int), vi x, vn, vn] (gLvl B n sub L) := by
  intro d I s base C0 Q hd hP hZ hL0 hK hq
  have loop : ∀ (m i : Nat) (I1 : Nat → Nat → Int) (s1 : xT) (C1 : List Int) (v4 : zV), i + m = 700 → xFe I I1 (t_eb t) base → CP I1 B n s1 → CZ I1 (t_eb t) base → (∀ p, s1 = .inl p → CK I1 (t_eb t) base (C0 ++ C1) ∧ base + (C0 ++ C1).length ≤ p ∧ pvS (gLvl B n sub L) s = pvR (gRow B n sub L m p C1) ∧ pvC (gLvl B n sub L) s = pvQ (gRow B n sub L m p C1)) → (∀ e, s1 = .inr e → pvS (gLvl B n sub L) s = .inr e) → Go sc d mt_129 10 [vr 805, vi (L : Int), vi x, vi (i : Int), v4] [] (z_cfg t, I1, J) Q := by
    intro m
    induction m with
    | zero =>
      intro i I1 s1 C1 v4 hi f1 P1 Z1 hy hn
      refine b129_10 ⟨⟨by omega, by omega⟩, fun z => by omega, fun _ => ?_⟩
      cases s1 with
      | inr e =>
        have e1 := hn e rfl
        exact hq I1 f1 (by rw [e1]; exact P1) Z1 (fun q z => by rw [e1] at z; cases z)
      | inl p =>
        obtain ⟨a, b, c1, c2⟩ := hy p rfl
        exact hq I1 f1 (by rw [c1]; exact P1) Z1 (fun q _ => by rw [c2]; exact a)
    | succ m ih =>
      intro i I1 s1 C1 v4 hi f1 P1 Z1 hy hn
      refine b129_10 ⟨⟨by omega, by omega⟩, fun _ => ?_, fun z => by omega⟩
      refine c122 (by omega) (fun d' _ => k122 rfl hL (by omega) P1 (b129_22 ?_))
      cases s1 with
      | inr e =>
        have e1 := hn e rfl
        refine ⟨(⟨by decide, by decide⟩ : inR (-1 : Int)), fun _ => hq I1 f1 (by rw [e1]; exact P1) Z1 (fun q z => by rw [e1] at z; cases z), fun z => absurd rfl z⟩
      | inl p =>
        obtain ⟨a, b, c1, c2⟩ := hy p rfl
        have hpn := P1.le
        rw [xOpI_l]
        cases ho : xOp B n L p with
        | none =>
          have e0 : gRow B n sub L (m + 1) p C1 = .inr (C1, p) := by
            show (match xOp B n L p with | none => _ | some o => _) = _
            rw [ho]
          rw [e0] at c1 c2
          exact ⟨⟨by decide, by decide⟩, fun _ => hq I1 f1 (by rw [c1]; exact P1) Z1 (fun q _ => by rw [c2]; exact a), fun z => absurd rfl z⟩
        | some o =>
          have hk := xOp_k ho
          have hE := xE_gt hpn.1 hk.1
          show (inR o) ∧ ((o = (-1 : Int) → _) ∧ (¬ o = (-1 : Int) → _))
          refine ⟨⟨by omega, by omega⟩, fun z => absurd z (by omega), fun _ => ?_⟩
          refine c98 (by omega) (fun d' _ => k98s (by omega) P1 (fun I2 f2 P2 => b129_35 ?_))
          have f12 : xFe I I2 (t_eb t) base := f1.tr (xFe.fr f2)
          refine c120 (by omega) (fun d' _ => h d' I2 _ base (C0 ++ C1) _ (by omega) P2 (Z1.fr f2) (hL0.fe f12) (fun p' hp' => ?_) (fun I3 f3 P3 Z3 K3 => b129_43 ?_))
          · have hp' : (Sum.inl (xE B n p) : xT) = .inl p' := hp'
            cases hp'
            exact ⟨a.fr f2, by omega⟩
          · refine c124 (by omega) (fun d' _ => k124 Z3 (fun I4 f4 Z4 g805 g85 K4 => b129_49 ?_))
            rw [show (i : Int) + 1 = ((i + 1 : Nat) : Int) by omega]
            have P4 := P3.fr g85 g805
            have hgr : ∀ r : pX, sub (xE B n p) = r → gRow B n sub L (m + 1) p C1 = (match r with | .inl e => .inl e | .inr r => gRow B n sub L m r.2 (C1 ++ r.1 ++ [o])) := fun r hr => by
              subst hr
              show (match xOp B n L p with | none => _ | some o => _) = _
              rw [ho]
              first | done | rfl
            cases hs : sub (xE B n p) with
            | inl e =>
              have e3 := pvS_n hs
              rw [hgr _ hs] at c1
              refine ih (i + 1) I4 _ [] _ (by omega) ((f12.tr f3).tr f4) P4 Z4 (fun q z => ?_) (fun e' z => ?_)
              · have z : pvS sub (.inl (xE B n p)) = .inl q := z
                rw [e3.1] at z; cases z
              · have z : pvS sub (.inl (xE B n p)) = .inr e' := z
                rw [e3.1] at z
                cases z
                exact c1
            | inr r =>
              obtain ⟨C2, q2⟩ := r
              have e3 := pvS_y hs
              rw [hgr _ hs] at c1 c2
              have gl := hg _ _ _ hE.2 hs
              refine ih (i + 1) I4 _ (C1 ++ C2 ++ [o]) _ (by omega) ((f12.tr f3).tr f4) P4 Z4 (fun q z => ?_) (fun e' z => ?_)
              · have z : pvS sub (.inl (xE B n p)) = .inl q := z
                have k3 := K3 q z
                rw [e3.1] at z
                cases z
                have k3 : CK I3 (t_eb t) base (C0 ++ C1 ++ pvC sub (.inl (xE B n p))) := k3
                rw [e3.2] at k3
                have hlen : (C0 ++ C1 ++ C2).length = (C0 ++ C1).length + C2.length := List.length_append
                have k4 := K4 _ k3 (by omega)
                rw [← List.append_assoc, ← List.append_assoc]
                refine ⟨k4, ?_, c1, c2⟩
                rw [List.length_append, hlen]
                show base + ((C0 ++ C1).length + C2.length + 1) ≤ q2
                omega
              · have z : pvS sub (.inl (xE B n p)) = .inr e' := z
                rw [e3.1] at z; cases z
  refine b129_0 (c120 (by omega) (fun d' _ => h d' I s base C0 _ (by omega) hP hZ hL0 hK (fun I1 f1 P1 Z1 K1 => b129_8 ?_)))
  refine loop 700 0 I1 _ (pvC sub s) _ (by omega) f1 P1 Z1 (fun p z => ?_) (fun e z => ?_)
  · cases s with
    | inr e => cases z
    | inl p0 =>
      have k1 := K1 p z
      cases hs : sub p0 with
      | inl e => rw [(pvS_n hs).1] at z; cases z
      | inr r =>
        obtain ⟨C2, q2⟩ := r
        have e3 := pvS_y hs
        rw [e3.1] at z
        cases z
        rw [e3.2] at k1 ⊢
        have gl := hg _ _ _ hP.le.1 hs
        have hb := (hK p0 rfl).2
        have eg : gLvl B n sub L p0 = gRow B n sub L 700 p C2 := by
          unfold gLvl
          rw [hs]
        refine ⟨k1, by rw [List.length_append]; omega, ?_, ?_⟩
        · rw [(pvS_l _ _).1, eg]
        · rw [(pvS_l _ _).2, eg]
  · cases s with
    | inr e0 => exact z
    | inl p0 =>
      cases hs : sub p0 with
      | inr r =>
        obtain ⟨C2, q2⟩ := r
        rw [(pvS_y hs).1] at z; cases z
      | inl e0 =>
        rw [(pvS_n hs).1] at z
        cases z
        have eg : gLvl B n sub L p0 = .inl e := by
          unfold gLvl
          rw [hs]
        rw [(pvS_l _ _).1, eg]
        rfl
theorem k126 {p : Nat} {C0 : List Int} (hd : 2 ≤ d) (hP : CP I B n (.inl p)) (hZ : CZ I (t_eb t) base) (hL : CL I (t_eb t) D) (hK : CK I (t_eb t) base C0 ∧ base + C0.length ≤ p) (hk : xK B n p = 1)
    (hq : ∀ (I' : Nat → Nat → Int) (r : pX), xFe I I' (t_eb t) base → CP I' B n (pvR r) → CZ I' (t_eb t) base → (∀ q, pvR r = .inl q → CK I' (t_eb t) base (C0 ++ pvQ r)) → r = (match xNm D (B (xS B n p)) (dT D) 0 with | none => .inl (4, xS B n p) | some i => .inr ([((1000 + i : Nat) : Int)], xE B n p)) → Q (.inl none) (z_cfg t, I', J)) : Go sc d mt_126 0 [vr 805, vn] [] (z_cfg t, I, J) Q := by
  have hpn := hP.le
  have hlt := xK_lt (by rw [hk]; decide : ¬ xK B n p = 0)
  have hs := xS_r (B := B) hpn.1
  have hb := hP.1 (xS B n p) (by omega)
  have hl := xK1_l hk (Nat.le_refl _) ((xE_r (B := B) hpn.1).2.2 hlt)
  have hv := sgn_v hb.2
  have e5 : I 805 5 = xS B n p := hP.2.2.2.1.2.2.2.1
  refine b126_0 ?_
  rw [e5, Int.toNat_natCast, hb.1]
  refine ⟨⟨by omega, by omega⟩, fun _ => ⟨⟨by omega, by omega⟩, ?_⟩, fun z => by omega⟩
  refine c113 (by omega) (fun d' _ => k113 (c := B (xS B n p)) (by omega) hb.2 hL (b126_25 (b126_29 ?_)))
  cases hm : xNm D (B (xS B n p)) (dT D) 0 with
  | none =>
    refine ⟨⟨by decide, by decide⟩, fun _ => ?_, fun z => absurd rfl z⟩
    exact c106 (by omega) (fun d' _ => k106 (f := 4) rfl (by decide) hP (fun I1 f1 P1 => b126_40 (hq I1 (.inl (4, xS B n p)) (xFe.fr f1) P1 (hZ.fr f1) (fun q z => by cases z) (by rw [hm]))))
  | some i =>
    have hi : i < 8 := by
      have key : ∀ (m a i : Nat), xNm D (B (xS B n p)) m a = some i → i < a + m := by
        intro m
        induction m with
        | zero => intro a i z; cases z
        | succ m ih =>
          intro a i z
          unfold xNm at z
          split at z
          · cases z; omega
          · have := ih (a + 1) i z; omega
      have := key _ _ _ hm
      have := hL.2.1
      omega
    show (inR ((i : Nat) : Int)) ∧ ((((i : Nat) : Int) = (-1 : Int) → _) ∧ (¬ ((i : Nat) : Int) = (-1 : Int) → _))
    refine ⟨⟨by omega, by omega⟩, fun z => by omega, fun _ => ?_⟩
    rw [show (1000 : Int) + ((i : Nat) : Int) = ((1000 + i : Nat) : Int) by omega]
    refine c124 (by omega) (fun d' _ => k124 hZ (fun I1 f1 Z1 g805 g85 K1 => b126_50 ?_))
    refine c98 (by omega) (fun d' _ => k98s (by omega) (hP.fr g85 g805) (fun I2 f2 P2 => b126_54 ?_))
    exact hq I2 (.inr ([((1000 + i : Nat) : Int)], xE B n p)) (f1.tr (xFe.fr f2)) P2 (Z1.fr f2) (fun q _ => (K1 C0 hK.1 (by omega)).fr f2) (by rw [hm])
theorem k127 {p : Nat} {C0 : List Int} (hd : 2 ≤ d) (hP : CP I B n (.inl p)) (hZ : CZ I (t_eb t) base) (hK : CK I (t_eb t) base C0 ∧ base + C0.length ≤ p) (hk : xK B n p = 1)
    (hq : ∀ (I' : Nat → Nat → Int) (r : pX), xFe I I' (t_eb t) base → CP I' B n (pvR r) → CZ I' (t_eb t) base → (∀ q, pvR r = .inl q → CK I' (t_eb t) base (C0 ++ pvQ r)) → r = (match gMs B n p with | none => .inl (3, xS B n p) | some c => .inr ([c], xE B n p)) → Q (.inl none) (z_cfg t, I', J)) : Go sc d mt_127 0 [vr 805] [] (z_cfg t, I, J) Q := by
  have hpn := hP.le
  have hlt := xK_lt (by rw [hk]; decide : ¬ xK B n p = 0)
  have hs := xS_r (B := B) hpn.1
  have em : ∀ (c : Int) (K : zR → zW → Prop), gMs B n p = some c → (∀ (I' : Nat → Nat → Int), Go sc d mt_127 123 [vr 805] [] (z_cfg t, I', J) Q → K (.inl none) (z_cfg t, I', J)) → Cl sc d 124 [vr 805, vi c] (z_cfg t, I, J) K := fun c K hc hK2 => by
    refine c124 (by omega) (fun d' _ => k124 hZ (fun I1 f1 Z1 g805 g85 K1 => hK2 I1 (b127_123 ?_)))
    refine c98 (by omega) (fun d' _ => k98s (by omega) (hP.fr g85 g805) (fun I2 f2 P2 => b127_127 ?_))
    exact hq I2 (.inr ([c], xE B n p)) (f1.tr (xFe.fr f2)) P2 (Z1.fr f2) (fun q _ => (K1 C0 hK.1 (by omega)).fr f2) (by rw [hc])
  unfold gMs at em hq
  refine b127_0 (c104 (by omega) (fun d' _ => k104 (k := 17) rfl (by decide) hP (b127_6 ?_)))
  rw [xIsW_v]
  cases h1 : xW B n p 17 with
  | true => exact ⟨⟨by decide, by decide⟩, fun z => absurd z (by decide), fun _ => em 1100 _ (by rw [if_pos h1]) (fun I' g => b127_16 g)⟩
  | false =>
    rw [h1, if_neg (by decide)] at em hq
    refine ⟨⟨by decide, by decide⟩, fun _ => ?_, fun z => absurd rfl z⟩
    refine c104 (by omega) (fun d' _ => k104 (k := 7) rfl (by decide) hP (b127_25 ?_))
    rw [xIsW_v]
    cases h2 : xW B n p 7 with
    | true => exact ⟨⟨by decide, by decide⟩, fun z => absurd z (by decide), fun _ => em 1101 _ (by rw [if_pos h2]) (fun I' g => b127_35 g)⟩
    | false =>
      rw [h2, if_neg (by decide)] at em hq
      refine ⟨⟨by decide, by decide⟩, fun _ => ?_, fun z => absurd rfl z⟩
      refine c104 (by omega) (fun d' _ => k104 (k := 18) rfl (by decide) hP (b127_45 ?_))
      rw [xIsW_v]
      cases h3 : xW B n p 18 with
      | true => exact ⟨⟨by decide, by decide⟩, fun z => absurd z (by decide), fun _ => em 1102 _ (by rw [if_pos h3]) (fun I' g => b127_55 g)⟩
      | false =>
        rw [h3, if_neg (by decide)] at em hq
        refine ⟨⟨by decide, by decide⟩, fun _ => ?_, fun z => absurd rfl z⟩
        refine c104 (by omega) (fun d' _ => k104 (k := 19) rfl (by decide) hP (b127_65 ?_))
        rw [xIsW_v]
        cases h4 : xW B n p 19 with
        | true => exact ⟨⟨by decide, by decide⟩, fun z => absurd z (by decide), fun _ => em 1103 _ (by rw [if_pos h4]) (fun I' g => b127_75 g)⟩
        | false =>
          rw [h4, if_neg (by decide)] at em hq
          refine ⟨⟨by decide, by decide⟩, fun _ => ?_, fun z => absurd rfl z⟩
          refine c104 (by omega) (fun d' _ => k104 (k := 5) rfl (by decide) hP (b127_84 ?_))
          rw [xIsW_v]
          cases h5 : xW B n p 5 with
          | true => exact ⟨⟨by decide, by decide⟩, fun z => absurd z (by decide), fun _ => em 1104 _ (by rw [if_pos h5]) (fun I' g => b127_94 g)⟩
          | false =>
            rw [h5, if_neg (by decide)] at em hq
            refine ⟨⟨by decide, by decide⟩, fun _ => ?_, fun z => absurd rfl z⟩
            refine c104 (by omega) (fun d' _ => k104 (k := 20) rfl (by decide) hP (b127_104 ?_))
            rw [xIsW_v]
            cases h6 : xW B n p 20 with
            | true => exact ⟨⟨by decide, by decide⟩, fun z => absurd z (by decide), fun _ => em 1105 _ (by rw [if_pos h6]) (fun I' g => b127_114 g)⟩
            | false =>
              rw [h6, if_neg (by decide)] at hq
              refine ⟨⟨by decide, by decide⟩, fun _ => ?_, fun z => absurd rfl z⟩
              exact c106 (by omega) (fun d' _ => k106 (f := 3) rfl (by decide) hP (fun I1 f1 P1 => b127_122 (hq I1 (.inl (3, xS B n p)) (xFe.fr f1) P1 (hZ.fr f1) (fun q z => by cases z) rfl)))
end
