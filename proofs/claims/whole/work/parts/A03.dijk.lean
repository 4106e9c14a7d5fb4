/-! ===== the class: shortest lengths, what holds between two steps ===== -/
def wE (D : tD) (tm : Bool) (g : gS) (e : Nat) : Int := if tm = true then ((mx (dT D) (dMi D) (gE g e).2.2.1 * 4096 + 1 : Nat) : Int) else 1
theorem wE_in {D : tD} (hD : dOk D) (tm : Bool) (g : gS) (e : Nat) : 1 ≤ wE D tm g e ∧ wE D tm g e ≤ 405505 := by
  have := (dsm hD (gE g e).2.2.1).2.2.2
  unfold wE
  split <;> omega
def DJ (D : tD) (g : gS) (tm : Bool) (s : Nat) (I : Nat → Nat → Int) (i n : Nat) (O H : Nat → Nat) : Prop :=
  (I 1283 5 = n ∧ I 1283 4 = i) ∧ HP n H (I 1396) (I 1428) (I 1332) ∧
  (∀ j, j < i → I 1364 j = O j ∧ O j < gN g ∧ 0 ≤ I 1332 (O j) ∧ I 1332 (O j) ≤ (j : Int) * 405505) ∧
  (∀ a, a < n → H a < gN g ∧ 0 ≤ I 1332 (H a) ∧ I 1332 (H a) ≤ (i : Int) * 405505) ∧
  (∀ j j', j < i → j' < i → O j = O j' → j = j') ∧ (∀ j a, j < i → a < n → ¬ O j = H a) ∧
  (∀ y, y < 2000 → (I 1332 y = 2147483647 ∧ I 1428 y = -1) ∨ hM i i O y ∨ hM n n H y) ∧
  (∀ j j', j ≤ j' → j' < i → I 1332 (O j) ≤ I 1332 (O j')) ∧ (∀ j a, j < i → a < n → I 1332 (O j) ≤ I 1332 (H a)) ∧
  (I 1332 s = 0 ∧ s < gN g ∧ ∀ y, ¬ y = s → (hM i i O y ∨ hM n n H y) → ∃ j, j < i ∧ ∃ e, eIn g (O j) e ∧ tg g e = y ∧ I 1332 y = I 1332 (O j) + wE D tm g e)
theorem DJ.room {D : tD} {g : gS} {tm : Bool} {s i n : Nat} {I : Nat → Nat → Int} {O H : Nat → Nat} (h : DJ D g tm s I i n O H) : i + n ≤ gN g := by
  obtain ⟨-, hH, hO, hA, hinj, hdj, -⟩ := h
  have inj := HP_inj hH
  refine inj_le (gN g) (i + n) (fun q => if q < i then O q else H (q - i)) (fun q hq => ?_) (fun q r hq hr e => ?_)
  · show (if q < i then O q else H (q - i)) < gN g
    split
    · exact (hO q (by omega)).2.1
    · exact (hA (q - i) (by omega)).1
  · have e : (if q < i then O q else H (q - i)) = (if r < i then O r else H (r - i)) := e
    by_cases c1 : q < i <;> by_cases c2 : r < i
    · rw [if_pos c1, if_pos c2] at e
      exact hinj q r c1 c2 e
    · rw [if_pos c1, if_neg c2] at e
      exact absurd e (hdj q (r - i) c1 (by omega))
    · rw [if_neg c1, if_pos c2] at e
      exact absurd e.symm (hdj r (q - i) c2 (by omega))
    · rw [if_neg c1, if_neg c2] at e
      have := inj (q - i) (r - i) (by omega) (by omega) e
      omega
theorem DJ.room2 {D : tD} {g : gS} {tm : Bool} {s i n x : Nat} {I : Nat → Nat → Int} {O H : Nat → Nat} (h : DJ D g tm s I i n O H) (hx : x < gN g) (h1 : ¬ hM i i O x) (h2 : ¬ hM n n H x) : i + n < gN g := by
  obtain ⟨-, hH, hO, hA, hinj, hdj, -⟩ := h
  have inj := HP_inj hH
  refine inj_le (gN g) (i + n + 1) (fun q => if q < i then O q else if q < i + n then H (q - i) else x) (fun q hq => ?_) (fun q r hq hr e => ?_)
  · show (if q < i then O q else if q < i + n then H (q - i) else x) < gN g
    split
    · exact (hO q (by omega)).2.1
    · split
      · exact (hA (q - i) (by omega)).1
      · exact hx
  · have e : (if q < i then O q else if q < i + n then H (q - i) else x) = (if r < i then O r else if r < i + n then H (r - i) else x) := e
    by_cases c1 : q < i
    · rw [if_pos c1] at e
      by_cases c2 : r < i
      · rw [if_pos c2] at e
        exact hinj q r c1 c2 e
      · rw [if_neg c2] at e
        by_cases c3 : r < i + n
        · rw [if_pos c3] at e
          exact absurd e (hdj q (r - i) c1 (by omega))
        · rw [if_neg c3] at e
          exact absurd ⟨q, c1, by omega, e⟩ h1
    · rw [if_neg c1] at e
      by_cases c2 : r < i
      · rw [if_pos c2] at e
        by_cases c3 : q < i + n
        · rw [if_pos c3] at e
          exact absurd e.symm (hdj r (q - i) c2 (by omega))
        · rw [if_neg c3] at e
          exact absurd ⟨r, c2, by omega, e.symm⟩ h1
      · rw [if_neg c2] at e
        by_cases c3 : q < i + n <;> by_cases c4 : r < i + n
        · rw [if_pos c3, if_pos c4] at e
          have := inj (q - i) (r - i) (by omega) (by omega) e
          omega
        · rw [if_pos c3, if_neg c4] at e
          exact absurd ⟨q - i, by omega, by omega, e⟩ h2
        · rw [if_neg c3, if_pos c4] at e
          exact absurd ⟨r - i, by omega, by omega, e.symm⟩ h2
        · omega
theorem DJ.inR {D : tD} {g : gS} {tm : Bool} {s i n : Nat} {I : Nat → Nat → Int} {O H : Nat → Nat} (h : DJ D g tm s I i n O H) (hi : i ≤ 2000) : ∀ y, y < 2000 → inR (I 1332 y) := by
  obtain ⟨-, -, hO, hA, -, -, hc, -⟩ := h
  intro y hy
  rcases hc y hy with ⟨e, -⟩ | ⟨j, hj, -, e⟩ | ⟨a, ha, -, e⟩
  · rw [e]; exact ⟨by decide, by decide⟩
  · have := hO j hj
    rw [e] at this
    exact ⟨by omega, by omega⟩
  · have := hA a ha
    rw [e] at this
    exact ⟨by omega, by omega⟩
/-- what the loops leave alone -/
def FQ (I I' : Nat → Nat → Int) : Prop := (∀ a, ¬ a = 1396 → ¬ a = 1428 → ¬ a = 1283 → ¬ a = 1332 → ¬ a = 1364 → I' a = I a) ∧ ∀ k, ¬ k = 0 → ¬ k = 4 → ¬ k = 5 → I' 1283 k = I 1283 k
theorem FQ.rf (I : Nat → Nat → Int) : FQ I I := ⟨fun _ _ _ _ _ _ => rfl, fun _ _ _ _ => rfl⟩
theorem FQ.tr {I I1 I2 : Nat → Nat → Int} (h : FQ I I1) (h' : FQ I1 I2) : FQ I I2 := ⟨fun a h1 h2 h3 h4 h5 => (h'.1 a h1 h2 h3 h4 h5).trans (h.1 a h1 h2 h3 h4 h5), fun k h1 h2 h3 => (h'.2 k h1 h2 h3).trans (h.2 k h1 h2 h3)⟩
/-- a length that shorten has made less: DJ again -/
theorem DJ.less {D : tD} {g : gS} {tm : Bool} {s i n n' x e : Nat} {l : Int} {I I' : Nat → Nat → Int} {O H : Nat → Nat} (hD : dOk D) (h : DJ D g tm s I (i + 1) n O H) (hx : x < gN g) (hN : gN g ≤ 2000) (hi : i < 2000) (he : eIn g (O i) e) (hte : tg g e = x) (hl : l = I 1332 (O i) + wE D tm g e) (hno : ¬ hM (i + 1) (i + 1) O x) (hlt : l < I 1332 x) (hS : HS I n n' x l H I') : ∃ H', DJ D g tm s I' (i + 1) n' O H' ∧ (∀ y, I' 1332 y ≤ I 1332 y) ∧ (∀ j, j < i + 1 → I' 1332 (O j) = I 1332 (O j)) ∧ I' 1332 x = l := by
  obtain ⟨⟨-, h4⟩, hH, hO, hA, hinj, hdj, hc, hs1, hs2, h0, hsN, hpr⟩ := h
  obtain ⟨q1, q2, q3, q4, ⟨H', q5, q6⟩, q7⟩ := hS
  have hw := wE_in hD tm g e
  have hOi := hO i (by omega)
  have Lx : I' 1332 x = l := by rw [q4, zrow_at]
  have Ly : ∀ y, ¬ y = x → I' 1332 y = I 1332 y := fun y hy => by rw [q4, zrow_ne hy]
  have Ox : ∀ j, j < i + 1 → ¬ O j = x := fun j hj z => hno ⟨j, hj, by omega, z⟩
  have LO : ∀ j, j < i + 1 → I' 1332 (O j) = I 1332 (O j) := fun j hj => Ly _ (Ox j hj)
  have hxs : ¬ x = s := fun z => by rw [z, h0] at hlt; omega
  have mem : ∀ a, a < n' → H' a = x ∨ ∃ b, b < n ∧ H b = H' a := fun a ha => by
    rcases (q6 (H' a)).mp ⟨a, ha, by omega, rfl⟩ with z | ⟨b, hb, -, z⟩
    · exact Or.inl z
    · exact Or.inr ⟨b, hb, z⟩
  have old : ∀ b, b < n → ¬ H b = x → I' 1332 (H b) = I 1332 (H b) := fun b _ hb => Ly _ hb
  refine ⟨H', ⟨⟨q3, by rw [q2 4 (by decide)]; exact h4⟩, q5, fun j hj => ?_, fun a ha => ?_, hinj, fun j a hj ha => ?_, fun y hy => ?_, fun j j' hjj hj => ?_, fun j a hj ha => ?_, ?_, hsN, fun y hy hm => ?_⟩, fun y => ?_, LO, Lx⟩
  · rw [q1 1364 (by decide) (by decide) (by decide) (by decide), LO j hj]; exact hO j hj
  · rcases mem a ha with z | ⟨b, hb, z⟩
    · rw [z, Lx]; exact ⟨hx, by omega, by omega⟩
    · by_cases c : H' a = x
      · rw [c, Lx]; exact ⟨hx, by omega, by omega⟩
      · rw [Ly _ c, ← z]; exact hA b hb
  · intro z
    rcases mem a ha with q | ⟨b, hb, q⟩
    · exact Ox j hj (z.trans q)
    · exact hdj j b hj hb (z.trans q.symm)
  · by_cases c : y = x
    · exact Or.inr (Or.inr ((q6 y).mpr (Or.inl c)))
    · rcases hc y hy with ⟨e1, e2⟩ | z | z
      · by_cases m : hM n n H y
        · exact Or.inr (Or.inr ((q6 y).mpr (Or.inr m)))
        · exact Or.inl ⟨by rw [Ly y c]; exact e1, by rw [q7 y c m]; exact e2⟩
      · exact Or.inr (Or.inl z)
      · exact Or.inr (Or.inr ((q6 y).mpr (Or.inr z)))
  · rw [LO j (by omega), LO j' hj]; exact hs1 j j' hjj hj
  · rw [LO j hj]
    by_cases c : H' a = x
    · rw [c, Lx]
      have := hs1 j i (by omega) (by omega)
      omega
    · rcases mem a ha with z | ⟨b, hb, z⟩
      · exact absurd z c
      · rw [Ly _ c, ← z]; exact hs2 j b hj hb
  · rw [Ly s (fun z => hxs z.symm)]; exact h0
  · by_cases c : y = x
    · exact ⟨i, by omega, e, he, hte.trans c.symm, by rw [c, Lx, LO i (by omega)]; exact hl⟩
    · have hm' : hM (i + 1) (i + 1) O y ∨ hM n n H y := by
        rcases hm with z | z
        · exact Or.inl z
        · exact Or.inr (((q6 y).mp z).resolve_left c)
      obtain ⟨j, hj, e', z1, z2, z3⟩ := hpr y hy hm'
      exact ⟨j, hj, e', z1, z2, by rw [Ly y c, LO j hj]; exact z3⟩
  · by_cases c : y = x
    · rw [c, Lx]; omega
    · rw [Ly y c]; exact Int.le_refl _
section
variable {sc : mS} {d : Nat} {t : zT} {I J : Nat → Nat → Int} {Q : zR → zW → Prop} {D : tD}
theorem k56 {x1 x2 : Int} {g : gS} {tm : Bool} {s i n e : Nat} {O H : Nat → Nat} (e1 : x1 = tg g e) (e2 : x2 = I 1332 (O i) + wE D tm g e) (hd : 2 ≤ d) (hD : dOk D) (h : DJ D g tm s I (i + 1) n O H) (hN : gN g ≤ 2000) (he : eIn g (O i) e) (hx : tg g e < gN g)
    (k : ∀ I' n' H', DJ D g tm s I' (i + 1) n' O H' → (∀ y, I' 1332 y ≤ I 1332 y) → (∀ j, j < i + 1 → I' 1332 (O j) = I 1332 (O j)) → I' 1332 (tg g e) ≤ I 1332 (O i) + wE D tm g e → FQ I I' → I' 1283 0 = I 1283 0 → Q (.inl none) (z_cfg t, I', J)) :
    Go sc d mt_56 0 [vr 1283, vi x1, vi x2, vn] [] (z_cfg t, I, J) Q := by
  subst e1 e2
  have hi := h.room
  have hR := h.inR (by omega)
  have hw := wE_in hD tm g e
  have hOi := h.2.2.1 i (by omega)
  have hlr : inR (I 1332 (O i) + wE D tm g e) := ⟨by omega, by omega⟩
  by_cases c : I 1332 (O i) + wE D tm g e < I 1332 (tg g e)
  · have hno : ¬ hM (i + 1) (i + 1) O (tg g e) := by
      rintro ⟨j, hj, -, z⟩
      have := h.2.2.2.2.2.2.2.1 j i (by omega) (by omega)
      rw [z] at this
      omega
    have fin : ∀ n' I', HS I n n' (tg g e) (I 1332 (O i) + wE D tm g e) H I' → Q (.inl none) (z_cfg t, I', J) := by
      intro n' I' hS
      obtain ⟨H', g1, g2, g3, g4⟩ := DJ.less hD h hx hN (by omega) he rfl rfl hno c hS
      exact k I' n' H' g1 g2 g3 (by rw [g4]; exact Int.le_refl _) ⟨fun a a1 a2 a3 a4 _ => hS.1 a a1 a2 a3 a4, fun q _ _ q5 => hS.2.1 q q5⟩ (hS.2.1 0 (by decide))
    by_cases m : hM n n H (tg g e)
    · obtain ⟨p, hp, -, hs⟩ := m
      exact k56c rfl hd (by omega) hlr (by omega) h.1.1 h.2.1 hR c hp hs (fun I' q => fin n I' q)
    · have hr2 := h.room2 hx hno m
      rcases h.2.2.2.2.2.2.1 (tg g e) (by omega) with ⟨-, z⟩ | z | z
      · exact k56b rfl hd (by omega) hlr (by omega) h.1.1 h.2.1 hR c z (fun I' q => fin (n + 1) I' q)
      · exact absurd z hno
      · exact absurd z m
  · exact k56a rfl (by omega) hlr (hR _ (by omega)) c (k I n H h (fun _ => Int.le_refl _) (fun _ _ => rfl) (by omega) (FQ.rf I) rfl)
/-- the nearest one is settled -/
theorem DJ.take {g : gS} {tm : Bool} {s i n : Nat} {O H H' : Nat → Nat} {I' I2 : Nat → Nat → Int} (h : DJ D g tm s I i (n + 1) O H) (q1 : ∀ a, ¬ a = 1396 → ¬ a = 1428 → ¬ a = 1283 → I' a = I a) (q3 : I' 1283 5 = n) (q4 : HP n H' (I' 1396) (I' 1428) (I 1332)) (q5 : ∀ y, hM n n H' y ↔ (hM (n + 1) (n + 1) H y ∧ ¬ y = H 0)) (q6 : ∀ y, ¬ hM (n + 1) (n + 1) H y → I' 1428 y = I 1428 y) (r1 : ∀ a, ¬ a = 1283 → ¬ a = 1364 → I2 a = I' a) (r2 : I2 1364 = z_row (I' 1364) i (H 0 : Int)) (r3 : I2 1283 4 = ((i + 1 : Nat) : Int)) (r4 : I2 1283 5 = I' 1283 5) : DJ D g tm s I2 (i + 1) n (upN O i (H 0)) H' := by
  obtain ⟨-, hH, hO, hA, hinj, hdj, hc, hs1, hs2, h0, hsN, hpr⟩ := h
  have eL : I2 1332 = I 1332 := by rw [r1 1332 (by decide) (by decide), q1 1332 (by decide) (by decide) (by decide)]
  have e6 : I2 1396 = I' 1396 := r1 1396 (by decide) (by decide)
  have e8 : I2 1428 = I' 1428 := r1 1428 (by decide) (by decide)
  have e4 : I' 1364 = I 1364 := q1 1364 (by decide) (by decide) (by decide)
  have mem : ∀ a, a < n → ∃ b, b < n + 1 ∧ H b = H' a ∧ ¬ H' a = H 0 := fun a ha => by
    obtain ⟨⟨b, hb, -, z⟩, z2⟩ := (q5 (H' a)).mp ⟨a, ha, by omega, rfl⟩
    exact ⟨b, hb, z, z2⟩
  have Oo : ∀ j, j < i → upN O i (H 0) j = O j := fun j hj => upN_ne (by omega)
  have Oi : upN O i (H 0) i = H 0 := upN_at _ _ _
  have hA0 := hA 0 (by omega)
  have hmin := HP_min hH
  have st : ∀ y, hM i i O y → hM (i + 1) (i + 1) (upN O i (H 0)) y := fun y ⟨j, hj, _, z⟩ => ⟨j, by omega, by omega, by rw [Oo j hj]; exact z⟩
  have st2 : ∀ y, hM (n + 1) (n + 1) H y → hM (i + 1) (i + 1) (upN O i (H 0)) y ∨ hM n n H' y := fun y hy => by
    by_cases c : y = H 0
    · exact Or.inl ⟨i, by omega, by omega, by rw [Oi, c]⟩
    · exact Or.inr ((q5 y).mpr ⟨hy, c⟩)
  unfold DJ
  rw [eL, e6, e8, r4]
  refine ⟨⟨q3, r3⟩, q4, fun j hj => ?_, fun a ha => ?_, fun j j' hj hj' e => ?_, fun j a hj ha => ?_, fun y hy => ?_, fun j j' hjj hj => ?_, fun j a hj ha => ?_, h0, hsN, fun y hy hm => ?_⟩
  · by_cases c : j = i
    · subst c
      rw [Oi, r2, zrow_at]
      exact ⟨rfl, hA0.1, hA0.2.1, hA0.2.2⟩
    · rw [Oo j (by omega), r2, zrow_ne c, e4]
      exact hO j (by omega)
  · obtain ⟨b, hb, z, -⟩ := mem a ha
    have := hA b hb
    rw [z] at this
    exact ⟨this.1, this.2.1, by omega⟩
  · by_cases c : j = i <;> by_cases c' : j' = i
    · omega
    · rw [c, Oi, Oo j' (by omega)] at e
      exact absurd e.symm (hdj j' 0 (by omega) (by omega))
    · rw [c', Oi, Oo j (by omega)] at e
      exact absurd e (hdj j 0 (by omega) (by omega))
    · rw [Oo j (by omega), Oo j' (by omega)] at e
      exact hinj j j' (by omega) (by omega) e
  · obtain ⟨b, hb, z, z2⟩ := mem a ha
    by_cases c : j = i
    · rw [c, Oi]; exact fun e => z2 e.symm
    · rw [Oo j (by omega), ← z]; exact hdj j b (by omega) hb
  · rcases hc y hy with ⟨z1, z2⟩ | z | z
    · by_cases m : hM (n + 1) (n + 1) H y
      · exact Or.inr (st2 y m)
      · exact Or.inl ⟨z1, by rw [q6 y m]; exact z2⟩
    · exact Or.inr (Or.inl (st y z))
    · exact Or.inr (st2 y z)
  · by_cases c' : j' = i
    · rw [c', Oi]
      by_cases c : j = i
      · rw [c, Oi]; exact Int.le_refl _
      · rw [Oo j (by omega)]; exact hs2 j 0 (by omega) (by omega)
    · rw [Oo j' (by omega), Oo j (by omega)]; exact hs1 j j' hjj (by omega)
  · obtain ⟨b, hb, z, -⟩ := mem a ha
    rw [← z]
    by_cases c : j = i
    · rw [c, Oi]; exact hmin b b (Nat.le_refl _) hb
    · rw [Oo j (by omega)]; exact hs2 j b (by omega) hb
  · have hm' : hM i i O y ∨ hM (n + 1) (n + 1) H y := by
      rcases hm with ⟨j, hj, -, z⟩ | z
      · by_cases c : j = i
        · rw [c, Oi] at z; exact Or.inr ⟨0, by omega, by omega, z⟩
        · rw [Oo j (by omega)] at z; exact Or.inl ⟨j, by omega, by omega, z⟩
      · exact Or.inr ((q5 y).mp z).1
    obtain ⟨j, hj, e, z1, z2, z3⟩ := hpr y hy hm'
    exact ⟨j, by omega, e, by rw [Oo j hj]; exact z1, z2, by rw [Oo j hj]; exact z3⟩
end
