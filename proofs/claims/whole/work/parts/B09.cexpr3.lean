/-! ===== expressions, the class: not, parts, nests ===== -/
def gFn (B : Nat → Nat) (n : Nat) (sum : Nat → pX) (N p : Nat) : pX := match gTst B n sum p with
  | .inl e => .inl e
  | .inr r => .inr (r.1 ++ List.replicate N 1208, r.2)
section
variable {sc : mS} {d : Nat} {t : zT} {I J : Nat → Nat → Int} {Q : zR → zW → Prop} {B : Nat → Nat} {n : Nat} {D : tD} {base : Nat}
theorem gNot_f {sum : Nat → pX} {p0 N p : Nat} (h1 : (gNs B n 6 p0).1 = N) (h2 : (gNs B n 6 p0).2 = p) (h : ¬ (N = 6 ∧ xW B n p 16 = true)) : gNot B n sum p0 = gFn B n sum N p := by
  subst h1 h2
  unfold gNot
  rw [if_neg h]
  rfl
theorem gFn_n {sum : Nat → pX} {N p : Nat} {e : Nat × Nat} (h : gTst B n sum p = .inl e) : gFn B n sum N p = .inl e := by
  unfold gFn
  rw [h]
theorem gFn_y {sum : Nat → pX} {N p q : Nat} {C : List Int} (h : gTst B n sum p = .inr (C, q)) : gFn B n sum N p = .inr (C ++ List.replicate N 1208, q) := by
  unfold gFn
  rw [h]
theorem k121 {d0 : Nat} {x : Int} {sum : Nat → pX} (hd0 : 5 ≤ d0) (hg : GL n sum) (h : XC sc t J B n D d0 mt_120 [vr 805, vi 3, vi x] sum) : XC sc t J B n D (d0 + 1) mt_121 [vr 805, vi x, vn, vn, vn] (gNot B n sum) := by
  intro d I s base C0 Q hd hP hZ hL0 hK hq
  have tail : ∀ (m i N : Nat) (I1 : Nat → Nat → Int) (s1 : xT) (C1 : List Int) (v3 : Int), i + m = N → N ≤ 6 → xFe I I1 (t_eb t) base → CP I1 B n s1 → CZ I1 (t_eb t) base → (∀ p, s1 = .inl p → CK I1 (t_eb t) base (C0 ++ C1) ∧ base + (C0 ++ C1).length + m ≤ p ∧ pvC (gNot B n sum) s = C1 ++ List.replicate m 1208) → pvS (gNot B n sum) s = s1 → Go sc d mt_121 78 [vr 805, vi x, vi (N : Int), vi v3, vi (i : Int)] [] (z_cfg t, I1, J) Q := by
    intro m
    induction m with
    | zero =>
      intro i N I1 s1 C1 v3 hi hN f1 P1 Z1 hy hS
      refine b121_78 ⟨⟨by omega, by omega⟩, ⟨by omega, by omega⟩, fun z => by omega, fun _ => ?_⟩
      refine hq I1 f1 (by rw [hS]; exact P1) Z1 (fun q z => ?_)
      obtain ⟨a, b, c⟩ := hy q (hS.symm.trans z)
      rw [c]
      show CK I1 (t_eb t) base (C0 ++ (C1 ++ []))
      rw [List.append_nil]
      exact a
    | succ m ih =>
      intro i N I1 s1 C1 v3 hi hN f1 P1 Z1 hy hS
      refine b121_78 ⟨⟨by omega, by omega⟩, ⟨by omega, by omega⟩, fun _ => ?_, fun z => by omega⟩
      refine c124 (by omega) (fun d' _ => k124 Z1 (fun I4 f4 Z4 g805 g85 K4 => b121_91 ?_))
      rw [show (i : Int) + 1 = ((i + 1 : Nat) : Int) by omega]
      refine ih (i + 1) N I4 s1 (C1 ++ [1208]) v3 (by omega) hN (f1.tr f4) (P1.fr g85 g805) Z4 (fun p hp => ?_) hS
      obtain ⟨a, b, c⟩ := hy p hp
      have hpn : p ≤ n ∧ n ≤ 700 := by rw [hp] at P1; exact P1.le
      have k4 := K4 _ a (by omega)
      rw [List.append_assoc] at k4
      refine ⟨k4, ?_, ?_⟩
      · rw [← List.append_assoc, List.length_append]
        show base + ((C0 ++ C1).length + 1) + m ≤ p
        omega
      · rw [c, List.replicate_succ, List.append_assoc]
        rfl
  have mid : ∀ (N : Nat) (I1 : Nat → Nat → Int) (s1 : xT), N ≤ 6 → xFe I I1 (t_eb t) base → CP I1 B n s1 → CZ I1 (t_eb t) base → (∀ p, s1 = .inl p → CK I1 (t_eb t) base C0 ∧ base + C0.length + N ≤ p ∧ pvS (gNot B n sum) s = pvR (gFn B n sum N p) ∧ pvC (gNot B n sum) s = pvQ (gFn B n sum N p)) → (∀ e, s1 = .inr e → pvS (gNot B n sum) s = .inr e) → Go sc d mt_121 43 [vr 805, vi x, vi (N : Int), vn, vn] [] (z_cfg t, I1, J) Q := by
    intro N I1 s1 hN f1 P1 Z1 hy hn
    refine b121_43 (c120 (by omega) (fun d' _ => h d' I1 s1 base C0 _ (by omega) P1 Z1 (hL0.fe f1) (fun p hp => ⟨(hy p hp).1, by have := (hy p hp).2.1; omega⟩) (fun I2 f2 P2 Z2 K2 => b121_49 ?_)))
    have f12 := f1.tr f2
    have stop : ∀ e : Nat × Nat, pvS sum s1 = .inr e → pvS (gNot B n sum) s = .inr e → Cl sc d 122 [vr 805, vi 2] (z_cfg t, I2, J) (z_k sc d mt_121 false 51 [vr 805, vi x, vi (N : Int), vn, vn] [] Q) := fun e he hE => by
      rw [he] at P2
      refine c122 (by omega) (fun d' _ => k122 (L := 2) rfl (by decide) (by omega) P2 (b121_54 ⟨(⟨by decide, by decide⟩ : inR (-1 : Int)), fun _ => ?_, fun z => absurd rfl z⟩))
      exact b121_75 (tail N 0 N I2 _ [] _ (by omega) hN f12 P2 Z2 (fun p z => by cases z) hE)
    cases s1 with
    | inr e => exact stop e rfl (hn e rfl)
    | inl p =>
      obtain ⟨a, b, c1, c2⟩ := hy p rfl
      have hpn := P1.le
      cases hs : sum p with
      | inl e =>
        refine stop e (pvS_n hs).1 ?_
        have eT : gTst B n sum p = .inl e := by unfold gTst; rw [hs]
        rw [c1, gFn_n eT]
        rfl
      | inr r =>
        obtain ⟨C2, q⟩ := r
        have e3 := pvS_y hs
        have k2 := K2 q e3.1
        rw [e3.1] at P2
        rw [e3.2] at k2
        have gl := hg _ _ _ hpn.1 hs
        refine c122 (by omega) (fun d' _ => k122 (L := 2) rfl (by decide) (by omega) P2 (b121_54 ?_))
        rw [xOpI_l]
        cases ho : xOp B n 2 q with
        | none =>
          have eT : gTst B n sum p = .inr (C2, q) := by
            unfold gTst
            rw [hs]
            simp only [ho]
          rw [gFn_y eT] at c1 c2
          refine ⟨⟨by decide, by decide⟩, fun _ => ?_, fun z => absurd rfl z⟩
          refine b121_75 (tail N 0 N I2 _ C2 _ (by omega) hN f12 P2 Z2 (fun p' z => ?_) c1)
          cases z
          refine ⟨k2, ?_, c2⟩
          rw [List.length_append]
          omega
        | some o =>
          have hk := xOp_k ho
          have hE := xE_gt gl.2 hk.1
          show (inR o) ∧ ((o = (-1 : Int) → _) ∧ (¬ o = (-1 : Int) → _))
          refine ⟨⟨by omega, by omega⟩, fun z => absurd z (by omega), fun _ => ?_⟩
          refine c98 (by omega) (fun d' _ => k98s (by omega) P2 (fun I3 f3 P3 => b121_64 ?_))
          have f13 : xFe I I3 (t_eb t) base := f12.tr (xFe.fr f3)
          refine c120 (by omega) (fun d' _ => h d' I3 _ base (C0 ++ C2) _ (by omega) P3 (Z2.fr f3) (hL0.fe f13) (fun p' hp' => ?_) (fun I4 f4 P4 Z4 K4 => b121_70 ?_))
          · have hp' : (Sum.inl (xE B n q) : xT) = .inl p' := hp'
            cases hp'
            refine ⟨k2.fr f3, ?_⟩
            rw [List.length_append]
            omega
          · refine c124 (by omega) (fun d' _ => k124 Z4 (fun I5 f5 Z5 g805 g85 K5 => b121_75 ?_))
            have P5 := P4.fr g85 g805
            have f15 := (f13.tr f4).tr f5
            cases hs2 : sum (xE B n q) with
            | inl e =>
              have e4 := pvS_n hs2
              have eT : gTst B n sum p = .inl e := by
                unfold gTst
                rw [hs]
                simp only [ho, hs2]
              rw [gFn_n eT] at c1
              have P5 : CP I5 B n (pvS sum (.inl (xE B n q))) := P5
              rw [e4.1] at P5
              exact tail N 0 N I5 _ [] _ (by omega) hN f15 P5 Z5 (fun p z => by cases z) c1
            | inr r2 =>
              obtain ⟨C3, q3⟩ := r2
              have e4 := pvS_y hs2
              have eT : gTst B n sum p = .inr (C2 ++ C3 ++ [o], q3) := by
                unfold gTst
                rw [hs]
                simp only [ho, hs2]
              rw [gFn_y eT] at c1 c2
              have gl2 := hg _ _ _ hE.2 hs2
              have k4 := K4 q3 e4.1
              have k4 : CK I4 (t_eb t) base (C0 ++ C2 ++ pvC sum (.inl (xE B n q))) := k4
              rw [e4.2] at k4
              have P5 : CP I5 B n (pvS sum (.inl (xE B n q))) := P5
              rw [e4.1] at P5
              have hlen : (C0 ++ C2 ++ C3).length = C0.length + C2.length + C3.length := by rw [List.length_append, List.length_append]
              have hpn5 := P5.le
              have k5 := K5 _ k4 (by omega)
              refine tail N 0 N I5 _ (C2 ++ C3 ++ [o]) _ (by omega) hN f15 P5 Z5 (fun p' z => ?_) c1
              cases z
              rw [← List.append_assoc, ← List.append_assoc]
              refine ⟨k5, ?_, c2⟩
              rw [List.length_append, hlen]
              show base + (C0.length + C2.length + C3.length + 1) + N ≤ q3
              omega
  refine b121_0 ?_
  cases s with
  | inr e =>
    refine b121_2 ⟨⟨by decide, by decide⟩, fun _ => ?_, fun z => absurd z (by decide)⟩
    refine c103 (by omega) (fun d' _ => k103 (k := 16) rfl (by decide) (by omega) hP (fun I1 f1 P1 => b121_14 ⟨(⟨by decide, by decide⟩ : inR (0 : Int)), fun _ => ?_, fun z => absurd rfl z⟩))
    refine b121_23 ⟨⟨by decide, by decide⟩, fun z => absurd z (by decide), fun _ => ?_⟩
    exact mid 0 I1 (.inr e) (by omega) (xFe.fr f1) P1 (hZ.fr f1) (fun p z => by cases z) (fun e' z => by cases z; rfl)
  | inl p0 =>
    obtain ⟨hK1, hK2⟩ := hK p0 rfl
    have lp : ∀ (m i p : Nat) (I1 : Nat → Nat → Int), i + m = 6 → xFe I I1 (t_eb t) base → CP I1 B n (.inl p) → CZ I1 (t_eb t) base → CK I1 (t_eb t) base C0 → base + C0.length + i ≤ p → (gNs B n m p).1 + i = (gNs B n 6 p0).1 → (gNs B n m p).2 = (gNs B n 6 p0).2 → Go sc d mt_121 2 [vr 805, vi x, vi (i : Int), vn, vn] [] (z_cfg t, I1, J) Q := by
      intro m
      induction m with
      | zero =>
        intro i p I1 hi f1 P1 Z1 k1 hb g1 g2
        have g1 : 0 + i = (gNs B n 6 p0).1 := g1
        have g2 : p = (gNs B n 6 p0).2 := g2
        refine b121_2 ⟨⟨by omega, by omega⟩, fun z => by omega, fun _ => ?_⟩
        refine b121_23 ⟨⟨by omega, by omega⟩, fun _ => ?_, fun z => by omega⟩
        refine c104 (by omega) (fun d' _ => k104 (k := 16) rfl (by decide) P1 (b121_35 ?_))
        rw [xIsW_v]
        cases hw : xW B n p 16 with
        | false =>
          have eg := gNot_f (sum := sum) (p0 := p0) (N := i) (p := p) (by omega) g2.symm (fun z => by rw [hw] at z; cases z.2)
          refine ⟨⟨by decide, by decide⟩, fun _ => ?_, fun z => absurd rfl z⟩
          refine mid i I1 (.inl p) (by omega) f1 P1 Z1 (fun p' z => ?_) (fun e z => by cases z)
          cases z
          refine ⟨k1, hb, ?_, ?_⟩
          · rw [(pvS_l _ _).1, eg]
          · rw [(pvS_l _ _).2, eg]
        | true =>
          have eg : gNot B n sum p0 = .inl (2, xS B n p) := by
            unfold gNot
            rw [if_pos ⟨by omega, by rw [← g2]; exact hw⟩, ← g2]
          refine ⟨⟨by decide, by decide⟩, fun z => absurd z (by decide), fun _ => ?_⟩
          refine c106 (by omega) (fun d' _ => k106 (f := 2) rfl (by decide) P1 (fun I2 f2 P2 => ?_))
          refine mid i I2 (.inr (2, xS B n p)) (by omega) (f1.tr (xFe.fr f2)) P2 (Z1.fr f2) (fun p' z => by cases z) (fun e z => ?_)
          cases z
          rw [(pvS_l _ _).1, eg]
          rfl
      | succ m ih =>
        intro i p I1 hi f1 P1 Z1 k1 hb g1 g2
        have hpn := P1.le
        refine b121_2 ⟨⟨by omega, by omega⟩, fun _ => ?_, fun z => by omega⟩
        refine c103 (by omega) (fun d' _ => k103 (k := 16) rfl (by decide) (by omega) P1 (fun I2 f2 P2 => b121_14 ?_))
        rw [xIsW_v]
        have P2 : CP I2 B n (if xW B n p 16 = true then .inl (xE B n p) else .inl p) := P2
        cases hw : xW B n p 16 with
        | true =>
          rw [hw, if_pos rfl] at P2
          have hE := xE_gt hpn.1 (xW_k hw)
          have eN : gNs B n (m + 1) p = ((gNs B n m (xE B n p)).1 + 1, (gNs B n m (xE B n p)).2) := by
            show (if xW B n p 16 = true then _ else _) = _
            rw [if_pos hw]
          rw [eN] at g1 g2
          have g1 : (gNs B n m (xE B n p)).1 + 1 + i = (gNs B n 6 p0).1 := g1
          refine ⟨⟨by decide, by decide⟩, fun z => absurd z (by decide), fun _ => ?_⟩
          rw [show (i : Int) + 1 = ((i + 1 : Nat) : Int) by omega]
          exact ih (i + 1) (xE B n p) I2 (by omega) (f1.tr (xFe.fr f2)) P2 (Z1.fr f2) (k1.fr f2) (by omega) (by omega) g2
        | false =>
          rw [hw, if_neg (by decide)] at P2
          have eN : gNs B n (m + 1) p = (0, p) := by
            show (if xW B n p 16 = true then _ else _) = _
            rw [if_neg (by rw [hw]; decide)]
          rw [eN] at g1 g2
          have g1 : 0 + i = (gNs B n 6 p0).1 := g1
          have g2 : p = (gNs B n 6 p0).2 := g2
          have eg := gNot_f (sum := sum) (p0 := p0) (N := i) (p := p) (by omega) g2.symm (fun z => by omega)
          refine ⟨⟨by decide, by decide⟩, fun _ => ?_, fun z => absurd rfl z⟩
          refine b121_23 ⟨⟨by omega, by omega⟩, fun z => by omega, fun _ => ?_⟩
          refine mid i I2 (.inl p) (by omega) (f1.tr (xFe.fr f2)) P2 (Z1.fr f2) (fun p' z => ?_) (fun e z => by cases z)
          cases z
          refine ⟨k1.fr f2, hb, ?_, ?_⟩
          · rw [(pvS_l _ _).1, eg]
          · rw [(pvS_l _ _).2, eg]
    exact lp 6 0 p0 I (by omega) (xFe.rf I _ base) hP hZ hK1 hK2 rfl rfl
theorem k125 {d0 : Nat} {x : Int} {nst : Nat → pX} (hd0 : 5 ≤ d0) (hg : GL n nst) (h : XC sc t J B n D d0 mt_128 [vr 805, vi (x + 1)] nst) : XC sc t J B n D (d0 + 1) mt_125 [vr 805, vi x] (gPart B n D nst) := by
  intro d I s base C0 Q hd hP hZ hL0 hK hq
  have hi := hP.k
  refine b125_0 ⟨hi.1, ?_⟩
  cases s with
  | inr e =>
    have h4 : I 805 4 = 4 := hP.2.2.2.1
    refine ⟨fun z => by omega, fun _ => ?_⟩
    refine c112 (by omega) (fun d' _ => k112 hP (b125_27 ⟨(⟨by decide, by decide⟩ : inR (0 : Int)), fun _ => ⟨hi.1, fun z => by omega, fun _ => ?_⟩, fun z => absurd rfl z⟩))
    refine c108 (by omega) (fun d' _ => k108 (c := 40) rfl (by decide) hP (b125_58 ⟨(⟨by decide, by decide⟩ : inR (0 : Int)), fun _ => ?_, fun z => absurd rfl z⟩))
    exact c106 (by omega) (fun d' _ => k106 (f := 1) rfl (by decide) hP (fun I1 f1 P1 => b125_86 (hq I1 (xFe.fr f1) P1 (hZ.fr f1) (fun q z => by cases z))))
  | inl p =>
    obtain ⟨hK1, hK2⟩ := hK p rfl
    have hpn := hP.le
    have e4 : I 805 4 = xK B n p := hP.2.2.2.1.2.2.1
    have hq2 : ∀ (r : pX), gPart B n D nst p = r → ∀ (I' : Nat → Nat → Int), xFe I I' (t_eb t) base → CP I' B n (pvR r) → CZ I' (t_eb t) base → (∀ q, pvR r = .inl q → CK I' (t_eb t) base (C0 ++ pvQ r)) → Q (.inl none) (z_cfg t, I', J) := fun r hr I' f P Z K => by
      subst hr
      exact hq I' f P Z K
    refine ⟨fun c1 => ?_, fun c1 => ?_⟩
    · have k2 : xK B n p = 2 := by omega
      have hv := xV_le k2
      have hE := xE_gt hpn.1 (by rw [k2]; decide : ¬ xK B n p = 0)
      refine c105 (by omega) (fun d' _ => k105 (lo := 0) (hi := 999) rfl rfl (by omega) (by omega) (by omega) hP (fun I1 v f1 P1 v1 v2 => b125_17 ?_))
      refine c124 (by omega) (fun d' _ => k124 (hZ.fr f1) (fun I2 f2 Z2 g805 g85 K2 => b125_20 ?_))
      by_cases c2 : 3 < xE B n p - xS B n p
      · have e : gPart B n D nst p = .inl (2, xS B n p) := by unfold gPart; rw [if_pos k2, if_pos c2]
        rw [xNum_2 k2 (Or.inl c2)] at P1
        exact hq2 _ e I2 ((xFe.fr f1).tr f2) (P1.fr g85 g805) Z2 (fun q z => by cases z)
      · have e : gPart B n D nst p = .inr ([(xV B n p : Int)], xE B n p) := by unfold gPart; rw [if_pos k2, if_neg c2]
        have eN : xNum B n 0 999 (.inl p) = .inl (xE B n p) := xNum_3 k2 (by omega)
        rw [eN] at P1 v1
        have hv1 := (v1 ⟨_, rfl⟩).1
        have hv1 : v = xV B n p := hv1
        rw [hv1] at K2
        exact hq2 _ e I2 ((xFe.fr f1).tr f2) (P1.fr g85 g805) Z2 (fun q _ => K2 C0 (hK1.fr f1) (by omega))
    · have k2 : ¬ xK B n p = 2 := by omega
      refine c112 (by omega) (fun d' _ => k112 hP (b125_27 ?_))
      rw [xIsN_v]
      by_cases c2 : xK B n p = 1 ∧ xE B n p - xS B n p = 1
      · rw [decide_eq_true c2]
        refine ⟨⟨by decide, by decide⟩, fun z => absurd z (by decide), fun _ => ?_⟩
        refine c126 (by omega) (fun d' _ => k126 (by omega) hP hZ hL0 ⟨hK1, hK2⟩ c2.1 (fun I1 r f1 P1 Z1 K1 hr => b125_34 (hq2 r ?_ I1 f1 P1 Z1 K1)))
        unfold gPart
        rw [if_neg k2, if_pos c2]
        exact hr.symm
      · rw [decide_eq_false c2]
        refine ⟨⟨by decide, by decide⟩, fun _ => ⟨hi.1, fun c3 => ?_, fun c3 => ?_⟩, fun z => absurd rfl z⟩
        · have k1 : xK B n p = 1 := by omega
          refine c127 (by omega) (fun d' _ => k127 (by omega) hP hZ ⟨hK1, hK2⟩ k1 (fun I1 r f1 P1 Z1 K1 hr => b125_49 (hq2 r ?_ I1 f1 P1 Z1 K1)))
          unfold gPart
          rw [if_neg k2, if_neg c2, if_pos k1]
          exact hr.symm
        · have k1 : ¬ xK B n p = 1 := by omega
          refine c108 (by omega) (fun d' _ => k108 (c := 40) rfl (by decide) hP (b125_58 ?_))
          cases hb : xIsG B n 40 (.inl p) with
          | false =>
            refine ⟨⟨by decide, by decide⟩, fun _ => ?_, fun z => absurd rfl z⟩
            have e : gPart B n D nst p = .inl (1, xS B n p) := by
              unfold gPart
              rw [if_neg k2, if_neg c2, if_neg k1, if_neg (by rw [hb]; decide)]
            exact c106 (by omega) (fun d' _ => k106 (f := 1) rfl (by decide) hP (fun I1 f1 P1 => b125_86 (hq2 _ e I1 (xFe.fr f1) P1 (hZ.fr f1) (fun q z => by cases z))))
          | true =>
            refine ⟨⟨by decide, by decide⟩, fun z => absurd z (by decide), fun _ => ?_⟩
            have hE := xE_gt hpn.1 (xIsG_k hb)
            have eP : gPart B n D nst p = (match nst (xE B n p) with | .inl e => .inl e | .inr r => if xIsG B n 41 (.inl r.2) = true then .inr (r.1, xE B n r.2) else .inl (1, xS B n r.2)) := by
              unfold gPart
              rw [if_neg k2, if_neg c2, if_neg k1, if_pos hb]
              first | done | rfl
            refine c98 (by omega) (fun d' _ => k98s (by omega) hP (fun I1 f1 P1 => b125_65 ?_))
            refine c128 (by omega) (fun d' _ => h d' I1 _ base C0 _ (by omega) P1 (hZ.fr f1) (hL0.fe (xFe.fr f1 : xFe I I1 (t_eb t) base)) (fun p' z => ?_) (fun I2 f2 P2 Z2 K2 => b125_72 ?_))
            · have z : (Sum.inl (xE B n p) : xT) = .inl p' := z
              cases z
              exact ⟨hK1.fr f1, by omega⟩
            · refine c107 (by omega) (fun d' _ => k107 (c := 41) rfl (by decide) (by omega) P2 (fun I3 f3 P3 => b125_78 ?_))
              have f13 : xFe I I3 (t_eb t) base := ((xFe.fr f1).tr f2).tr (xFe.fr f3)
              have P3 : CP I3 B n (xNG B n 41 (pvS nst (.inl (xE B n p)))) := P3
              cases hs : nst (xE B n p) with
              | inl e =>
                rw [(pvS_n hs).1] at P3
                simp only [hs] at eP
                exact hq2 _ eP I3 f13 P3 (Z2.fr f3) (fun q z => by cases z)
              | inr r =>
                obtain ⟨C2, q2⟩ := r
                have e3 := pvS_y hs
                simp only [hs] at eP
                have k2' := K2 q2 e3.1
                have k2' : CK I2 (t_eb t) base (C0 ++ pvC nst (.inl (xE B n p))) := k2'
                rw [e3.2] at k2'
                rw [e3.1] at P3
                unfold xNG at P3
                cases hc : xIsG B n 41 (.inl q2) with
                | true =>
                  rw [hc, if_pos rfl] at P3
                  rw [if_pos hc] at eP
                  exact hq2 _ eP I3 f13 P3 (Z2.fr f3) (fun q _ => k2'.fr f3)
                | false =>
                  rw [hc, if_neg (by decide)] at P3
                  rw [if_neg (by rw [hc]; decide)] at eP
                  exact hq2 _ eP I3 f13 P3 (Z2.fr f3) (fun q z => by cases z)
theorem k128s {d0 : Nat} {x : Int} {g : Nat → pX} (hx : 0 ≤ x ∧ x < 6) (h : XC sc t J B n D d0 mt_120 [vr 805, vi 0, vi x] g) : XC sc t J B n D (d0 + 1) mt_128 [vr 805, vi x] g := by
  intro d I s base C0 Q hd hP hZ hL0 hK hq
  refine b128_0 ⟨⟨by omega, by omega⟩, fun _ => ?_, fun z => by omega⟩
  exact c120 (by omega) (fun d' _ => h d' I s base C0 _ (by omega) hP hZ hL0 hK (fun I1 f1 P1 Z1 K1 => b128_12 (hq I1 f1 P1 Z1 K1)))
theorem k128z : XC sc t J B n D 5 mt_128 [vr 805, vi 6] (gExp B n D 0) := by
  intro d I s base C0 Q hd hP hZ hL0 hK hq
  have hi := hP.k
  have end0 : ∀ (v : Nat), (1 ≤ v ∧ v ≤ 2) → xFail B n v s = pvS (gExp B n D 0) s → Go sc d mt_128 46 [vr 805, vi 6] [vi (v : Int), vr 805] (z_cfg t, I, J) Q := fun v hv e => by
    refine b128_46 (c106 (by omega) (fun d' _ => k106 (f := v) rfl (by omega) hP (fun I1 f1 P1 => b128_49 (hq I1 (xFe.fr f1) (by rw [← e]; exact P1) (hZ.fr f1) (fun q z => ?_)))))
    cases s with
    | inl p => cases z
    | inr e => cases z
  refine b128_0 ⟨⟨by decide, by decide⟩, fun z => absurd z (by decide), fun _ => ⟨hi.1, ?_⟩⟩
  cases s with
  | inr e =>
    have h4 : I 805 4 = 4 := hP.2.2.2.1
    refine ⟨fun z => by omega, fun _ => ⟨fun z => by omega, fun _ => ?_⟩⟩
    exact c108 (by omega) (fun d' _ => k108 (c := 40) rfl (by decide) hP (b128_38 ⟨(⟨by decide, by decide⟩ : inR (0 : Int)), fun _ => end0 1 (by decide) rfl, fun z => absurd rfl z⟩))
  | inl p =>
    have e4 : I 805 4 = xK B n p := hP.2.2.2.1.2.2.1
    have y : (xK B n p = 2 ∨ xK B n p = 1 ∨ xIsG B n 40 (.inl p) = true) → Go sc d mt_128 41 [vr 805, vi 6] [vr 805] (z_cfg t, I, J) Q := fun z => by
      refine b128_41 (end0 2 (by decide) ?_)
      show _ = (Sum.inr (if _ then 2 else 1, xS B n p) : xT)
      rw [if_pos z]
      rfl
    refine ⟨fun z => y (Or.inl (by omega)), fun c1 => ⟨fun z => y (Or.inr (Or.inl (by omega))), fun c2 => ?_⟩⟩
    refine c108 (by omega) (fun d' _ => k108 (c := 40) rfl (by decide) hP (b128_38 ?_))
    cases hb : xIsG B n 40 (.inl p) with
    | true => exact ⟨⟨by decide, by decide⟩, fun z => absurd z (by decide), fun _ => y (Or.inr (Or.inr hb))⟩
    | false =>
      refine ⟨⟨by decide, by decide⟩, fun _ => end0 1 (by decide) ?_, fun z => absurd rfl z⟩
      show _ = (Sum.inr (if _ then 2 else 1, xS B n p) : xT)
      rw [if_neg (fun z => by rcases z with z | z | z; omega; omega; rw [hb] at z; cases z)]
      rfl
theorem k120r {d0 L : Nat} {x : Int} {g : Nat → pX} (hL : L ≤ 4 ∧ ¬ L = 2) (h : XC sc t J B n D d0 mt_129 [vr 805, vi (L : Int), vi x, vn, vn] g) : XC sc t J B n D (d0 + 1) mt_120 [vr 805, vi (L : Int), vi x] g := by
  intro d I s base C0 Q hd hP hZ hL0 hK hq
  refine b120_0 ⟨⟨by omega, by omega⟩, fun z => by omega, fun _ => ⟨fun _ => ?_, fun z => by omega⟩⟩
  exact c129 (by omega) (fun d' _ => h d' I s base C0 _ (by omega) hP hZ hL0 hK (fun I1 f1 P1 Z1 K1 => b120_32 (hq I1 f1 P1 Z1 K1)))
theorem k120n {d0 : Nat} {x : Int} {g : Nat → pX} (h : XC sc t J B n D d0 mt_121 [vr 805, vi x, vn, vn, vn] g) : XC sc t J B n D (d0 + 1) mt_120 [vr 805, vi 2, vi x] g := by
  intro d I s base C0 Q hd hP hZ hL0 hK hq
  refine b120_0 ⟨⟨by decide, by decide⟩, fun _ => ?_, fun z => absurd rfl z⟩
  exact c121 (by omega) (fun d' _ => h d' I s base C0 _ (by omega) hP hZ hL0 hK (fun I1 f1 P1 Z1 K1 => b120_10 (hq I1 f1 P1 Z1 K1)))
theorem k120p {d0 : Nat} {x : Int} {g : Nat → pX} (h : XC sc t J B n D d0 mt_125 [vr 805, vi x] g) : XC sc t J B n D (d0 + 1) mt_120 [vr 805, vi 5, vi x] g := by
  intro d I s base C0 Q hd hP hZ hL0 hK hq
  refine b120_0 ⟨⟨by decide, by decide⟩, fun z => absurd z (by decide), fun _ => ⟨fun z => absurd z (by decide), fun _ => ?_⟩⟩
  exact c125 (by omega) (fun d' _ => h d' I s base C0 _ (by omega) hP hZ hL0 hK (fun I1 f1 P1 Z1 K1 => b120_23 (hq I1 f1 P1 Z1 K1)))
theorem k120o {d0 : Nat} {x : Int} {nst : Nat → pX} (hd0 : 5 ≤ d0) (hg : GL n nst) (h : XC sc t J B n D d0 mt_128 [vr 805, vi (x + 1)] nst) : XC sc t J B n D (d0 + 12) mt_120 [vr 805, vi 0, vi x] (gOr B n D nst) := by
  have a5 := k120p (k125 hd0 hg h)
  have g5 := hg.part (B := B) (D := D)
  have a4 := k120r (L := 4) (by decide) (k129 (L := 4) (by omega) (by decide) g5 a5)
  have g4 := g5.lvl (B := B) 4
  have a3 := k120r (L := 3) (by decide) (k129 (L := 3) (by omega) (by decide) g4 a4)
  have g3 := g4.lvl (B := B) 3
  have a2 := k120n (k121 (by omega) g3 a3)
  have g2 := g3.not (B := B)
  have a1 := k120r (L := 1) (by decide) (k129 (L := 1) (by omega) (by decide) g2 a2)
  have g1 := g2.lvl (B := B) 1
  exact k120r (L := 0) (by decide) (k129 (L := 0) (by omega) (by decide) g1 a1)
theorem k128 : ∀ (m : Nat), m ≤ 6 → ∀ x : Int, x = 6 - (m : Int) → XC sc t J B n D (13 * m + 5) mt_128 [vr 805, vi x] (gExp B n D m) := by
  intro m
  induction m with
  | zero =>
    intro _ x hx
    rw [show x = 6 by omega]
    exact k128z
  | succ m ih =>
    intro hm x hx
    have a := k120o (x := x) (by omega) (GL.exp (B := B) (D := D) m) (ih (by omega) (x + 1) (by omega))
    have b := k128s (x := x) (by omega) a
    rw [show 13 * (m + 1) + 5 = 13 * m + 5 + 12 + 1 by omega]
    exact b
/-- an expression, the class -/
theorem k120 : XC sc t J B n D 82 mt_120 [vr 805, vi 0, vi 0] (gExp B n D 6) := k120o (x := 0) (d0 := 70) (by decide) (GL.exp 5) (k128 5 (by decide) 1 (by decide))
end
