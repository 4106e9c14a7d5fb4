/-! ===== the class: put, lift, lower, takeNearest, shorten ===== -/
section
variable {sc : mS} {d : Nat} {t : zT} {I J : Nat → Nat → Int} {Q : zR → zW → Prop}
/-- what the heap's methods leave alone -/
def FHp (I I' : Nat → Nat → Int) : Prop := ∀ a, ¬ a = 1396 → ¬ a = 1428 → I' a = I a
theorem k58 {x1 x2 : Int} {p x : Nat} (e1 : x1 = p) (e2 : x2 = x) (hp : p < 2000) (hx : x < 2000) (h : Q (.inl none) (z_cfg t, z_u (z_u I 1396 p (x : Int)) 1428 x (p : Int), J)) : Go sc d mt_58 0 [vr 1283, vi x1, vi x2] [] (z_cfg t, I, J) Q := by
  subst e1 e2
  refine b58_0 ⟨⟨by omega, by omega⟩, fun c => by omega, fun _ => ⟨fun _ => ⟨⟨by omega, by omega⟩, fun c => by omega, fun _ => ⟨fun _ => ?_, fun c => by omega⟩⟩, fun c => by omega⟩⟩
  rw [Int.toNat_natCast, Int.toNat_natCast]
  exact h
/-- the length of a state -/
theorem k284 {x1 : Int} {x : Nat} (e1 : x1 = x) (hx : x < 2000) (h : Q (.inl (some (vi (I 1332 x)))) (z_cfg t, I, J)) : Go sc d mt_284 0 [vr 1283, vi x1] [] (z_cfg t, I, J) Q := by
  subst e1
  refine b284_0 ⟨⟨by omega, by omega⟩, fun c => by omega, fun _ => ⟨fun _ => ?_, fun c => by omega⟩⟩
  rw [Int.toNat_natCast]
  exact h
theorem rw_h {I : Nat → Nat → Int} {p x : Nat} {u v : Int} : z_u (z_u I 1396 p u) 1428 x v 1396 = z_row (I 1396) p u := by
  rw [zu_ne (by decide : ¬ 1396 = 1428), zu_row]
theorem rw_s {I : Nat → Nat → Int} {p x : Nat} {u v : Int} : z_u (z_u I 1396 p u) 1428 x v 1428 = z_row (I 1428) x v := by
  rw [zu_row, zu_ne (by decide : ¬ 1428 = 1396)]
theorem rw_f {I : Nat → Nat → Int} {p x : Nat} {u v : Int} : FHp I (z_u (z_u I 1396 p u) 1428 x v) := fun a h1 h2 => by
  rw [zu_ne h2, zu_ne h1]
/-- what lift and lower leave -/
def HQ (I0 : Nat → Nat → Int) (n p x : Nat) (H : Nat → Nat) (I' : Nat → Nat → Int) : Prop := FHp I0 I' ∧ (∃ H', HP n H' (I' 1396) (I' 1428) (I0 1332) ∧ ∀ y, hM n n H' y ↔ (y = x ∨ hM n p H y)) ∧ ∀ y, ¬ y = x → ¬ hM n p H y → I' 1428 y = I0 1428 y
theorem HQ_put {n p x : Nat} {H : Nat → Nat} (hpn : p < n) (hx : x < 2000) (h : HO n p x H (I 1396) (I 1428)) (h1 : ∀ i, 0 < i → i < n → ¬ i = p → (¬ (i - 1) / 2 = p → I 1332 (H ((i - 1) / 2)) ≤ I 1332 (H i)) ∧ ((i - 1) / 2 = p → I 1332 x ≤ I 1332 (H i))) (h2 : 0 < p → I 1332 (H ((p - 1) / 2)) ≤ I 1332 x) : HQ I n p x H (z_u (z_u I 1396 p (x : Int)) 1428 x (p : Int)) := by
  refine ⟨rw_f, ⟨upN H p x, ?_, hM_put hpn⟩, fun y hy _ => ?_⟩
  · rw [rw_h, rw_s]
    exact HP_put hpn hx h h1 h2
  · rw [rw_s, zrow_ne hy]
theorem HQ_mv {n p a x : Nat} {H : Nat → Nat} {I' : Nat → Nat → Int} (hpn : p < n) (han : a < n) (hap : ¬ a = p) (h : HQ (z_u (z_u I 1396 p (H a : Int)) 1428 (H a) (p : Int)) n a x (upN H p (H a)) I') : HQ I n p x H I' := by
  obtain ⟨h1, ⟨H', h2, h3⟩, h4⟩ := h
  have f : FHp I (z_u (z_u I 1396 p (H a : Int)) 1428 (H a) (p : Int)) := rw_f
  refine ⟨fun b b1 b2 => (h1 b b1 b2).trans (f b b1 b2), ⟨H', ?_, fun y => (h3 y).trans (by rw [hM_mv hpn han hap])⟩, fun y hy hm => ?_⟩
  · rw [f 1332 (by decide) (by decide)] at h2
    exact h2
  · rw [h4 y hy (fun z => hm ((hM_mv hpn han hap y).mp z)), rw_s, zrow_ne (fun e => hm ⟨a, han, hap, e.symm⟩)]
theorem half {p : Nat} (h : 0 < p) : Int.tdiv ((p : Int) - 1) 2 = (((p - 1) / 2 : Nat) : Int) := by
  rw [show (p : Int) - 1 = ((p - 1 : Nat) : Int) by omega]
  rfl
theorem k57 {x1 x2 : Int} {n p x : Nat} {H : Nat → Nat} (e1 : x1 = p) (e2 : x2 = x) (hd : 1 ≤ d) (hn : n ≤ 2000) (hpn : p < n) (hx : x < 2000) (hO : HO n p x H (I 1396) (I 1428)) (hU : OU n p x H (I 1332)) (hL : ∀ y, y < 2000 → inR (I 1332 y)) (h : ∀ I', HQ I n p x H I' → Q (.inl none) (z_cfg t, I', J)) : Go sc d mt_57 0 [vr 1283, vi x1, vi x2, vn, vn] [] (z_cfg t, I, J) Q := by
  subst e1 e2
  have loop : ∀ (m p : Nat) (I : Nat → Nat → Int) (H : Nat → Nat) (y1 : Int) (v4 : zV), p ≤ m → p < n → HO n p x H (I 1396) (I 1428) → OU n p x H (I 1332) → (∀ y, y < 2000 → inR (I 1332 y)) → (∀ I', HQ I n p x H I' → Q (.inl none) (z_cfg t, I', J)) → Go sc d mt_57 2 [vr 1283, vi y1, vi (x : Int), vi (p : Int), v4] [] (z_cfg t, I, J) Q := by
    intro m
    induction m with
    | zero =>
      intro p I H y1 v4 hm hpn hO hU hL h
      have hp0 : p = 0 := by omega
      subst hp0
      refine b57_2 ⟨⟨by omega, by omega⟩, fun c => by omega, fun _ => ?_⟩
      refine b57_60 (c58 hd (fun d' _ => k58 rfl rfl (by omega) hx ?_))
      exact b57_66 (h _ (HQ_put hpn hx hO (fun i h0 hi hip => ⟨(hU i h0 hi hip).1, fun e => ((hU i h0 hi hip).2 e).1⟩) (fun z => by omega)))
    | succ m ih =>
      intro p I H y1 v4 hm hpn hO hU hL h
      by_cases hp0 : p = 0
      · subst hp0
        refine b57_2 ⟨⟨by omega, by omega⟩, fun c => by omega, fun _ => ?_⟩
        refine b57_60 (c58 hd (fun d' _ => k58 rfl rfl (by omega) hx ?_))
        exact b57_66 (h _ (HQ_put hpn hx hO (fun i h0 hi hip => ⟨(hU i h0 hi hip).1, fun e => ((hU i h0 hi hip).2 e).1⟩) (fun z => by omega)))
      · have hp0 : 0 < p := by omega
        have ha := hO ((p - 1) / 2) (by omega) (by omega)
        refine b57_2 ⟨⟨by omega, by omega⟩, fun _ => ?_, fun c => by omega⟩
        refine ⟨fun _ => ?_, fun c => by omega⟩
        rw [half hp0, Int.toNat_natCast, ha.1]
        refine ⟨⟨⟨by omega, by omega⟩, ⟨by decide, by decide⟩, by decide⟩, ⟨by omega, by omega⟩, c284 hd (fun d' _ => k284 rfl ha.2.1 ?_)⟩
        refine b57_31 (c284 hd (fun d' _ => k284 rfl hx ?_))
        refine b57_36 ⟨hL _ ha.2.1, hL _ hx, fun c => ⟨⟨by omega, by omega⟩, ?_⟩, fun c => ?_⟩
        · rw [Int.toNat_natCast, ha.1]
          refine c58 hd (fun d' _ => k58 rfl rfl (by omega) ha.2.1 ?_)
          refine b57_54 ?_
          refine ih ((p - 1) / 2) _ (upN H p (H ((p - 1) / 2))) y1 _ (by omega) (by omega) ?_ ?_ ?_ (fun I' q => h I' (HQ_mv hpn (by omega) (by omega) q))
          · rw [rw_h, rw_s]
            exact HO_mv hpn (by omega) (by omega) hO
          · rw [rw_f 1332 (by decide) (by decide)]
            exact OU_mv hp0 hpn hU c
          · rw [rw_f 1332 (by decide) (by decide)]
            exact hL
        · refine b57_60 (c58 hd (fun d' _ => k58 rfl rfl (by omega) hx ?_))
          exact b57_66 (h _ (HQ_put hpn hx hO (fun i h0 hi hip => ⟨(hU i h0 hi hip).1, fun e => ((hU i h0 hi hip).2 e).1⟩) (fun z => by omega)))
  exact b57_0 (loop p p I H _ _ (Nat.le_refl _) hpn hO hU hL h)
theorem k60 {x1 : Int} {n x : Nat} {H : Nat → Nat} (e1 : x1 = x) (hd : 1 ≤ d) (hn : n ≤ 2000) (h5 : I 1283 5 = n) (hpn : 0 < n) (hx : x < 2000) (hO : HO n 0 x H (I 1396) (I 1428)) (hU : OV n 0 x H (I 1332)) (hL : ∀ y, y < 2000 → inR (I 1332 y)) (h : ∀ I', HQ I n 0 x H I' → Q (.inl none) (z_cfg t, I', J)) : Go sc d mt_60 0 [vr 1283, vi x1, vn, vn, vn, vn, vn] [] (z_cfg t, I, J) Q := by
  subst e1
  have fin : ∀ (p : Nat) (I : Nat → Nat → Int) (H : Nat → Nat) (x3 : Int) (v4 v5 v6 : zV), p < n → HO n p x H (I 1396) (I 1428) → OV n p x H (I 1332) → (∀ i, 0 < i → i < n → (i - 1) / 2 = p → I 1332 x ≤ I 1332 (H i)) → (∀ I', HQ I n p x H I' → Q (.inl none) (z_cfg t, I', J)) → Go sc d mt_60 131 [vr 1283, vi (x : Int), vi (p : Int), vi x3, v4, v5, v6] [] (z_cfg t, I, J) Q := by
    intro p I H x3 v4 v5 v6 hpn hO hU hc h
    refine b60_131 (c58 hd (fun d' _ => k58 rfl rfl (by omega) hx ?_))
    exact b60_137 (h _ (HQ_put hpn hx hO (fun i h0 hi hip => ⟨(hU.1 i h0 hi hip).1, fun e => hc i h0 hi e⟩) hU.2))
  have loop : ∀ (m p : Nat) (I : Nat → Nat → Int) (H : Nat → Nat) (v4 v5 v6 : zV), p + m = n → p < n → I 1283 5 = n → HO n p x H (I 1396) (I 1428) → OV n p x H (I 1332) → (∀ y, y < 2000 → inR (I 1332 y)) → (∀ I', HQ I n p x H I' → Q (.inl none) (z_cfg t, I', J)) → Go sc d mt_60 4 [vr 1283, vi (x : Int), vi (p : Int), vi (2 * (p : Int) + 1), v4, v5, v6] [] (z_cfg t, I, J) Q := by
    intro m
    induction m using Nat.strongRecOn with
    | ind m ih =>
      intro p I H v4 v5 v6 hm hpn h5 hO hU hL h
      refine b60_4 ?_
      rw [h5]
      refine ⟨⟨by omega, by omega⟩, ⟨by omega, by omega⟩, fun c => ⟨fun c2 => ⟨⟨by omega, by omega⟩, ?_⟩, fun c2 => by omega⟩, fun c => ?_⟩
      · have step : ∀ (a : Nat) (x4 x5 : Int), (a - 1) / 2 = p → 0 < a → a < n → (∀ i, 0 < i → i < n → (i - 1) / 2 = p → I 1332 (H a) ≤ I 1332 (H i)) → Go sc d mt_60 83 [vr 1283, vi (x : Int), vi (p : Int), vi (2 * (p : Int) + 1), vi x4, vi x5, v6] [vi (a : Int)] (z_cfg t, I, J) Q := by
          intro a x4 x5 hap ha0 han hmin
          have hne : ¬ a = p := by omega
          have ha := hO a han hne
          refine b60_83 ?_
          rw [Int.toNat_natCast, ha.1]
          refine ⟨⟨by omega, by omega⟩, c284 hd (fun d' _ => k284 rfl ha.2.1 ?_)⟩
          refine b60_96 (c284 hd (fun d' _ => k284 rfl hx ?_))
          refine b60_101 ⟨hL _ ha.2.1, hL _ hx, fun c => ⟨⟨by omega, by omega⟩, ?_⟩, fun c => ?_⟩
          · rw [Int.toNat_natCast, ha.1]
            refine c58 hd (fun d' _ => k58 rfl rfl (by omega) ha.2.1 ?_)
            refine b60_119 ?_
            refine ih (n - a) (by omega) a _ (upN H p (H a)) _ _ _ (by omega) han ?_ ?_ ?_ ?_ (fun I' q => h I' (HQ_mv hpn han hne q))
            · rw [rw_f 1283 (by decide) (by decide)]; exact h5
            · rw [rw_h, rw_s]
              exact HO_mv hpn han hne hO
            · rw [rw_f 1332 (by decide) (by decide)]
              exact OV_mv hpn han hap ha0 hmin hU c
            · rw [rw_f 1332 (by decide) (by decide)]
              exact hL
          · refine fin p I H _ _ _ _ hpn hO hU (fun i h0 hi hip => ?_) h
            have := hmin i h0 hi hip
            omega
        have h1 := hO (2 * p + 1) (by omega) (by omega)
        have e1 : (2 * (p : Int) + 1) = ((2 * p + 1 : Nat) : Int) := by omega
        have e2 : (2 * (p : Int) + 1 + 1) = ((2 * p + 2 : Nat) : Int) := by omega
        have left : ∀ (x4 : Int) (w5 : zV), (∀ i, 0 < i → i < n → (i - 1) / 2 = p → I 1332 (H (2 * p + 1)) ≤ I 1332 (H i)) → Go sc d mt_60 69 [vr 1283, vi (x : Int), vi (p : Int), vi (2 * (p : Int) + 1), vi x4, w5, v6] [] (z_cfg t, I, J) Q := by
          intro x4 w5 hmin
          refine b60_69 (b60_70 ⟨⟨by decide, by decide⟩, fun _ => ?_, fun z => absurd rfl z⟩)
          have := step (2 * p + 1) x4 0 (by omega) (by omega) (by omega) hmin
          rw [← e1] at this
          exact this
        refine ⟨fun c3 => ⟨fun c5 => ?_, fun c5 => by omega⟩, fun c3 => ?_⟩
        · have h2 := hO (2 * p + 2) (by omega) (by omega)
          rw [e2, Int.toNat_natCast, h2.1]
          refine ⟨⟨by omega, by omega⟩, c284 hd (fun d' _ => k284 rfl h2.2.1 ?_)⟩
          refine b60_52 ?_
          rw [show (2 * (p : Int) + 1).toNat = 2 * p + 1 by omega, h1.1]
          refine ⟨⟨by omega, by omega⟩, c284 hd (fun d' _ => k284 rfl h1.2.1 ?_)⟩
          refine b60_62 ⟨hL _ h2.2.1, hL _ h1.2.1, fun c4 => ?_, fun c4 => ?_⟩
          · refine b60_70 ⟨⟨by decide, by decide⟩, fun z => absurd z (by decide), fun _ => ?_⟩
            refine step (2 * p + 2) _ _ (by omega) (by omega) (by omega) (fun i h0 hi hip => ?_)
            by_cases q : i = 2 * p + 2
            · rw [q]; exact Int.le_refl _
            · rw [show i = 2 * p + 1 by omega]; omega
          · refine left _ _ (fun i h0 hi hip => ?_)
            by_cases q : i = 2 * p + 1
            · rw [q]; exact Int.le_refl _
            · rw [show i = 2 * p + 2 by omega]; omega
        · refine left _ _ (fun i h0 hi hip => ?_)
          rw [show i = 2 * p + 1 by omega]; exact Int.le_refl _
      · exact fin p I H _ _ _ _ hpn hO hU (fun i h0 hi hip => by omega) h
  exact b60_0 (loop n 0 I H _ _ _ (by omega) hpn h5 hO hU hL h)
/-- the nearest is taken -/
theorem k59 {n : Nat} {H : Nat → Nat} (hd : 2 ≤ d) (hn : n + 1 ≤ 2000) (h5 : I 1283 5 = ((n + 1 : Nat) : Int)) (hH : HP (n + 1) H (I 1396) (I 1428) (I 1332)) (hL : ∀ y, y < 2000 → inR (I 1332 y)) (h : ∀ (I' : Nat → Nat → Int) (H' : Nat → Nat), (∀ a, ¬ a = 1396 → ¬ a = 1428 → ¬ a = 1283 → I' a = I a) → (∀ k, ¬ k = 5 → I' 1283 k = I 1283 k) → I' 1283 5 = n → HP n H' (I' 1396) (I' 1428) (I 1332) → (∀ y, hM n n H' y ↔ (hM (n + 1) (n + 1) H y ∧ ¬ y = H 0)) → (∀ y, ¬ hM (n + 1) (n + 1) H y → I' 1428 y = I 1428 y) → Q (.inl (some (vi (H 0 : Int)))) (z_cfg t, I', J)) : Go sc d mt_59 0 [vr 1283, vn] [] (z_cfg t, I, J) Q := by
  have inj := HP_inj hH
  refine b59_0 ?_
  rw [h5, (hH.1 0 (by omega)).1, show ((n + 1 : Nat) : Int) - 1 = (n : Int) by omega]
  refine ⟨⟨by omega, by omega⟩, fun c => ⟨fun _ => ⟨⟨by omega, by omega⟩, ?_⟩, fun c => by omega⟩, fun c => ?_⟩
  · rw [Int.toNat_natCast, (hH.1 n (by omega)).1]
    have f : ∀ a, ¬ a = 1283 → z_u I 1283 5 (n : Int) a = I a := fun a ha => zu_ne ha
    refine c60 (by omega) (fun d' _ => k60 (n := n) (x := H n) (H := H) rfl (by omega) (by omega) (zu_same _ _ _ _) (by omega) (hH.1 n (by omega)).2.1 ?_ ?_ ?_ (fun I' q => b59_47 ?_))
    · intro i hi hi0
      rw [f 1396 (by decide), f 1428 (by decide)]
      have := hH.1 i (by omega)
      exact ⟨this.1, this.2.1, fun e => by have := inj i n (by omega) (by omega) e; omega, this.2.2⟩
    · rw [f 1332 (by decide)]
      refine ⟨fun i h0 hi hi0 => ⟨fun _ => hH.2 i h0 (by omega), fun _ z => by omega⟩, fun z => by omega⟩
    · rw [f 1332 (by decide)]; exact hL
    · obtain ⟨q1, ⟨H', q2, q3⟩, q4⟩ := q
      rw [f 1332 (by decide)] at q2
      refine h I' H' (fun a a1 a2 a3 => by rw [q1 a a1 a2, f a a3]) (fun k hk => by rw [q1 1283 (by decide) (by decide), zu_nk hk]) (by rw [q1 1283 (by decide) (by decide), zu_same]) q2 (fun y => ?_) (fun y hy => ?_)
      · rw [q3 y]
        constructor
        · rintro (e | ⟨i, hi, hi0, e⟩)
          · exact ⟨⟨n, by omega, by omega, e.symm⟩, fun z => by have := inj n 0 (by omega) (by omega) (by rw [← e, z]); omega⟩
          · exact ⟨⟨i, by omega, by omega, e⟩, fun z => by have := inj i 0 (by omega) (by omega) (by rw [e, z]); omega⟩
        · rintro ⟨⟨i, hi, -, e⟩, hy⟩
          by_cases c : i = n
          · subst c; exact Or.inl e.symm
          · exact Or.inr ⟨i, by omega, fun z => hy (by rw [← e, z]), e⟩
      · rw [q4 y (fun e => hy ⟨n, by omega, by omega, e.symm⟩) (fun ⟨i, hi, _, e⟩ => hy ⟨i, by omega, by omega, e⟩), f 1428 (by decide)]
  · have hn0 : n = 0 := by omega
    subst hn0
    refine h _ H (fun a _ _ a3 => zu_ne a3) (fun k hk => zu_nk hk) (zu_same _ _ _ _) ⟨fun i hi => by omega, fun i _ hi => by omega⟩ (fun y => ?_) (fun y _ => by rw [zu_ne (by decide : ¬ 1428 = 1283)])
    constructor
    · rintro ⟨i, hi, -⟩; omega
    · rintro ⟨⟨i, hi, -, e⟩, hy⟩
      exact absurd e (fun z => hy (by rw [← z, show i = 0 by omega]))
/-- nothing shorter -/
theorem k56a {x1 x2 : Int} {x : Nat} (e1 : x1 = x) (hx : x < 2000) (h2 : inR x2) (hL : inR (I 1332 x)) (c : ¬ x2 < I 1332 x) (h : Q (.inl none) (z_cfg t, I, J)) : Go sc d mt_56 0 [vr 1283, vi x1, vi x2, vn] [] (z_cfg t, I, J) Q := by
  subst e1
  refine b56_0 ⟨⟨by omega, by omega⟩, fun c => by omega, fun _ => ⟨fun _ => ?_, fun c => by omega⟩⟩
  rw [Int.toNat_natCast]
  exact ⟨h2, hL, fun z => absurd z c, fun _ => h⟩
/-- what shorten leaves: its length is the new one, and it is in the heap -/
def HS (I : Nat → Nat → Int) (n n' x : Nat) (l : Int) (H : Nat → Nat) (I' : Nat → Nat → Int) : Prop := (∀ a, ¬ a = 1396 → ¬ a = 1428 → ¬ a = 1283 → ¬ a = 1332 → I' a = I a) ∧ (∀ k, ¬ k = 5 → I' 1283 k = I 1283 k) ∧ I' 1283 5 = n' ∧ I' 1332 = z_row (I 1332) x l ∧ (∃ H', HP n' H' (I' 1396) (I' 1428) (I' 1332) ∧ ∀ y, hM n' n' H' y ↔ (y = x ∨ hM n n H y)) ∧ ∀ y, ¬ y = x → ¬ hM n n H y → I' 1428 y = I 1428 y
/-- a new one -/
theorem k56b {x1 l : Int} {n x : Nat} {H : Nat → Nat} (e1 : x1 = x) (hd : 2 ≤ d) (hx : x < 2000) (hl : inR l) (hn : n < 2000) (h5 : I 1283 5 = n) (hH : HP n H (I 1396) (I 1428) (I 1332)) (hL : ∀ y, y < 2000 → inR (I 1332 y)) (c : l < I 1332 x) (hs : I 1428 x = -1) (h : ∀ I', HS I n (n + 1) x l H I' → Q (.inl none) (z_cfg t, I', J)) : Go sc d mt_56 0 [vr 1283, vi x1, vi l, vn] [] (z_cfg t, I, J) Q := by
  subst e1
  have hno : ∀ i, i < n → ¬ H i = x := fun i hi e => by have := (hH.1 i hi).2.2; rw [e, hs] at this; omega
  refine b56_0 ⟨⟨by omega, by omega⟩, fun c => by omega, fun _ => ⟨fun _ => ?_, fun c => by omega⟩⟩
  rw [Int.toNat_natCast, h5, hs]
  refine ⟨hl, hL x hx, fun _ => ⟨⟨by decide, by decide⟩, fun _ => ⟨⟨by omega, by omega⟩, fun _ => ?_, fun z => by omega⟩, fun z => absurd rfl z⟩, fun z => absurd c z⟩
  generalize hI1 : z_u (z_u I 1332 x l) 1283 5 ((n : Int) + 1) = I1
  have f1 : ∀ a, ¬ a = 1332 → ¬ a = 1283 → I1 a = I a := fun a a1 a2 => by rw [← hI1, zu_ne a2, zu_ne a1]
  have f2 : I1 1332 = z_row (I 1332) x l := by rw [← hI1, zu_ne (by decide : ¬ 1332 = 1283), zu_row]
  have f3 : ∀ k, ¬ k = 5 → I1 1283 k = I 1283 k := fun k hk => by rw [← hI1, zu_nk hk, zu_ne (by decide : ¬ 1283 = 1332)]
  have f4 : I1 1283 5 = ((n + 1 : Nat) : Int) := by rw [← hI1, zu_same]; omega
  have fL : ∀ y, ¬ y = x → I1 1332 y = I 1332 y := fun y hy => by rw [f2, zrow_ne hy]
  refine b56_66 (c57 (by omega) (fun d' _ => k57 (n := n + 1) (p := n) (x := x) (H := H) rfl rfl (by omega) (by omega) (by omega) hx ?_ ?_ ?_ (fun I' q => b56_72 ?_)))
  · intro i hi hin
    have := hH.1 i (by omega)
    rw [f1 1396 (by decide) (by decide), f1 1428 (by decide) (by decide)]
    exact ⟨this.1, this.2.1, hno i (by omega), this.2.2⟩
  · intro i h0 hi hin
    refine ⟨fun _ => ?_, fun z => by omega⟩
    rw [fL _ (hno _ (by omega)), fL _ (hno _ (by omega))]
    exact hH.2 i h0 (by omega)
  · intro y hy
    by_cases q : y = x
    · rw [q, f2, zrow_at]; exact hl
    · rw [fL y q]; exact hL y hy
  · obtain ⟨q1, ⟨H', q2, q3⟩, q4⟩ := q
    refine h I' ⟨fun a a1 a2 a3 a4 => by rw [q1 a a1 a2, f1 a a4 a3], fun k hk => by rw [q1 1283 (by decide) (by decide), f3 k hk], by rw [q1 1283 (by decide) (by decide)]; exact f4, by rw [q1 1332 (by decide) (by decide)]; exact f2, ⟨H', ?_, fun y => ?_⟩, fun y hy hm => ?_⟩
    · rw [q1 1332 (by decide) (by decide)]; exact q2
    · rw [q3 y]
      constructor
      · rintro (e | ⟨i, hi, hin, e⟩)
        · exact Or.inl e
        · exact Or.inr ⟨i, by omega, by omega, e⟩
      · rintro (e | ⟨i, hi, -, e⟩)
        · exact Or.inl e
        · exact Or.inr ⟨i, by omega, by omega, e⟩
    · rw [q4 y hy (fun ⟨i, hi, hin, e⟩ => hm ⟨i, by omega, by omega, e⟩), f1 1428 (by decide) (by decide)]
/-- one of the heap -/
theorem k56c {x1 l : Int} {n p x : Nat} {H : Nat → Nat} (e1 : x1 = x) (hd : 2 ≤ d) (hx : x < 2000) (hl : inR l) (hn : n ≤ 2000) (h5 : I 1283 5 = n) (hH : HP n H (I 1396) (I 1428) (I 1332)) (hL : ∀ y, y < 2000 → inR (I 1332 y)) (c : l < I 1332 x) (hp : p < n) (hs : H p = x) (h : ∀ I', HS I n n x l H I' → Q (.inl none) (z_cfg t, I', J)) : Go sc d mt_56 0 [vr 1283, vi x1, vi l, vn] [] (z_cfg t, I, J) Q := by
  subst e1
  have inj := HP_inj hH
  have hsp := (hH.1 p hp).2.2
  rw [hs] at hsp
  have hno : ∀ i, i < n → ¬ i = p → ¬ H i = x := fun i hi hip e => hip (inj i p hi hp (by rw [e, hs]))
  refine b56_0 ⟨⟨by omega, by omega⟩, fun c => by omega, fun _ => ⟨fun _ => ?_, fun c => by omega⟩⟩
  rw [Int.toNat_natCast, hsp]
  refine ⟨hl, hL x hx, fun _ => ⟨⟨by omega, by omega⟩, fun z => by omega, fun _ => ?_⟩, fun z => absurd c z⟩
  generalize hI1 : z_u I 1332 x l = I1
  have f1 : ∀ a, ¬ a = 1332 → I1 a = I a := fun a a1 => by rw [← hI1, zu_ne a1]
  have f2 : I1 1332 = z_row (I 1332) x l := by rw [← hI1, zu_row]
  have fx : I1 1332 x = l := by rw [f2, zrow_at]
  have fL : ∀ y, ¬ y = x → I1 1332 y = I 1332 y := fun y hy => by rw [f2, zrow_ne hy]
  refine b56_66 (c57 (by omega) (fun d' _ => k57 (n := n) (p := p) (x := x) (H := H) rfl rfl (by omega) hn hp hx ?_ ?_ ?_ (fun I' q => b56_72 ?_)))
  · intro i hi hin
    have := hH.1 i hi
    rw [f1 1396 (by decide), f1 1428 (by decide)]
    exact ⟨this.1, this.2.1, hno i hi hin, this.2.2⟩
  · intro i h0 hi hin
    rw [fL _ (hno i hi hin)]
    have hoi := hH.2 i h0 hi
    refine ⟨fun z => ?_, fun z => ⟨?_, fun hp0 => ?_⟩⟩
    · rw [fL _ (hno _ (by omega) z)]; exact hoi
    · rw [fx]
      rw [z, hs] at hoi
      omega
    · rw [fL _ (hno _ (by omega) (by omega))]
      have := hH.2 p hp0 hp
      rw [z] at hoi
      omega
  · intro y hy
    by_cases q : y = x
    · rw [q, fx]; exact hl
    · rw [fL y q]; exact hL y hy
  · obtain ⟨q1, ⟨H', q2, q3⟩, q4⟩ := q
    have hmm : ∀ y, ¬ y = x → (hM n p H y ↔ hM n n H y) := fun y hy => ⟨fun ⟨i, hi, _, e⟩ => ⟨i, hi, by omega, e⟩, fun ⟨i, hi, _, e⟩ => ⟨i, hi, fun z => hy (by rw [← e, z, hs]), e⟩⟩
    refine h I' ⟨fun a a1 a2 _ a4 => by rw [q1 a a1 a2, f1 a a4], fun k _ => by rw [q1 1283 (by decide) (by decide), f1 1283 (by decide)], by rw [q1 1283 (by decide) (by decide), f1 1283 (by decide)]; exact h5, by rw [q1 1332 (by decide) (by decide)]; exact f2, ⟨H', ?_, fun y => ?_⟩, fun y hy hm => ?_⟩
    · rw [q1 1332 (by decide) (by decide)]; exact q2
    · rw [q3 y]
      by_cases e : y = x
      · exact ⟨fun _ => Or.inl e, fun _ => Or.inl e⟩
      · exact ⟨fun z => Or.inr ((hmm y e).mp (z.resolve_left e)), fun z => Or.inr ((hmm y e).mpr (z.resolve_left e))⟩
    · rw [q4 y hy (fun z => hm ((hmm y hy).mp z)), f1 1428 (by decide)]
end
