/-! ===== least minutes, then fewest crossings: pure ===== -/
theorem least_ex {p : Nat → Prop} (h : ∃ n, p n) : ∃ n, p n ∧ ∀ m, m < n → ¬ p m := by
  obtain ⟨n, hn⟩ := h
  induction n using Nat.strongRecOn with
  | ind n ih =>
    rcases Classical.em (∃ m, m < n ∧ p m) with ⟨m, h1, h2⟩ | hno
    · exact ih m h1 h2
    · exact ⟨n, hn, fun m hm hp => hno ⟨m, hm, hp⟩⟩
def mE (D : tD) (g : gS) (e : Nat) : Nat := mx (dT D) (dMi D) (gE g e).2.2.1
/-- a way of c crossings and m minutes -/
def wyP (D : tD) (g : gS) (c k m : Nat) : Prop := match c with
  | 0 => dGoal D (gX g k) = true ∧ m = 0
  | c + 1 => ∃ e, eIn g k e ∧ ∃ m', wyP D g c (tg g e) m' ∧ m = m' + mE D g e
def hop (D : tD) (g : gS) (k : Nat) : Prop := ∃ m c, wyP D g c k m
noncomputable def qM (D : tD) (g : gS) (k : Nat) : Nat := @dite _ (∃ m, ∃ c, wyP D g c k m) (Classical.propDecidable _) (fun h => Classical.choose (least_ex h)) (fun _ => 0)
noncomputable def qC (D : tD) (g : gS) (k : Nat) : Nat := @dite _ (∃ c, wyP D g c k (qM D g k)) (Classical.propDecidable _) (fun h => Classical.choose (least_ex h)) (fun _ => 0)
section
variable {D : tD} {g : gS} {k e : Nat}
theorem qM_sp (h : hop D g k) : (∃ c, wyP D g c k (qM D g k)) ∧ ∀ m, m < qM D g k → ¬ ∃ c, wyP D g c k m := by
  have e : qM D g k = Classical.choose (least_ex h) := dif_pos h
  rw [e]
  exact Classical.choose_spec (least_ex h)
theorem qC_sp (h : hop D g k) : wyP D g (qC D g k) k (qM D g k) ∧ ∀ c, c < qC D g k → ¬ wyP D g c k (qM D g k) := by
  have h' := (qM_sp h).1
  have e : qC D g k = Classical.choose (least_ex h') := dif_pos h'
  rw [e]
  exact Classical.choose_spec (least_ex h')
theorem qM_le {m c : Nat} (h : wyP D g c k m) : qM D g k ≤ m := by
  rcases Nat.lt_or_ge m (qM D g k) with q | q
  · exact absurd ⟨c, h⟩ ((qM_sp ⟨m, c, h⟩).2 m q)
  · exact q
theorem qC_le {c : Nat} (h : wyP D g c k (qM D g k)) : qC D g k ≤ c := by
  rcases Nat.lt_or_ge c (qC D g k) with q | q
  · exact absurd h ((qC_sp ⟨_, c, h⟩).2 c q)
  · exact q
theorem q_up (he : eIn g k e) (hj : hop D g (tg g e)) : hop D g k ∧ (qM D g k < qM D g (tg g e) + mE D g e ∨ (qM D g k = qM D g (tg g e) + mE D g e ∧ qC D g k ≤ qC D g (tg g e) + 1)) := by
  have h1 : wyP D g (qC D g (tg g e) + 1) k (qM D g (tg g e) + mE D g e) := ⟨e, he, _, (qC_sp hj).1, rfl⟩
  have h2 := qM_le h1
  refine ⟨⟨_, _, h1⟩, ?_⟩
  rcases Nat.lt_or_ge (qM D g k) (qM D g (tg g e) + mE D g e) with q | q
  · exact Or.inl q
  · have q : qM D g k = qM D g (tg g e) + mE D g e := by omega
    rw [← q] at h1
    exact Or.inr ⟨q, qC_le h1⟩
theorem q_goal (h : dGoal D (gX g k) = true) : hop D g k ∧ qM D g k = 0 ∧ qC D g k = 0 := by
  have h1 : wyP D g 0 k 0 := ⟨h, rfl⟩
  have h2 := qM_le h1
  have h2 : qM D g k = 0 := by omega
  have h3 : qC D g k ≤ 0 := qC_le (by rw [h2]; exact h1)
  exact ⟨⟨0, 0, h1⟩, h2, by omega⟩
theorem q_goal2 (h : hop D g k) (hc : qC D g k = 0) : dGoal D (gX g k) = true := by
  have := (qC_sp h).1
  rw [hc] at this
  exact this.1
theorem q_dn {c : Nat} (h : hop D g k) (hc : qC D g k = c + 1) : ∃ e, eIn g k e ∧ hop D g (tg g e) ∧ qM D g k = qM D g (tg g e) + mE D g e ∧ qC D g (tg g e) = c := by
  have h1 := (qC_sp h).1
  rw [hc] at h1
  obtain ⟨e, he, m', h2, h3⟩ := h1
  have hj : hop D g (tg g e) := ⟨m', c, h2⟩
  have h4 := qM_le h2
  have h5 := (q_up he hj).2
  have h6 : qM D g (tg g e) = m' := by omega
  rw [← h6] at h2
  have h7 := qC_le h2
  exact ⟨e, he, hj, by omega, by omega⟩
theorem q_chain (hTg : tgOk g) : ∀ (c k : Nat), k < gN g → hop D g k → qC D g k = c → ∀ v, v ≤ c → ∃ j, j < gN g ∧ hop D g j ∧ qC D g j = v := by
  intro c
  induction c with
  | zero => intro k hk h hc v hv; exact ⟨k, hk, h, by omega⟩
  | succ c ih =>
    intro k hk h hc v hv
    by_cases q : v = c + 1
    · exact ⟨k, hk, h, by omega⟩
    · obtain ⟨e, he, hj, -, h4⟩ := q_dn h hc
      exact ih (tg g e) (hTg k hk e he.1 he.2) hj h4 v (by omega)
theorem qC_lt (hTg : tgOk g) (hk : k < gN g) (h : hop D g k) : qC D g k < gN g := by
  have ch := q_chain hTg (qC D g k) k hk h rfl
  refine inj_le (gN g) (qC D g k + 1) (fun v => if hv : v ≤ qC D g k then Classical.choose (ch v hv) else 0) (fun v hv => ?_) (fun v v' hv hv' e => ?_)
  · have hv : v ≤ qC D g k := by omega
    show (dite _ _ _) < gN g
    rw [dif_pos hv]
    exact (Classical.choose_spec (ch v hv)).1
  · have hv : v ≤ qC D g k := by omega
    have hv' : v' ≤ qC D g k := by omega
    have e : (dite _ _ _ : Nat) = dite _ _ _ := e
    rw [dif_pos hv, dif_pos hv'] at e
    have h1 := (Classical.choose_spec (ch v hv)).2.2
    have h2 := (Classical.choose_spec (ch v' hv')).2.2
    rw [e, h2] at h1
    exact h1.symm
end
/-- to a goal, with B to the minute -/
noncomputable def tQ (D : tD) (g : gS) (B : Nat) (k : Nat) : Int := @ite _ (hop D g k) (Classical.propDecidable _) ((qM D g k * B + qC D g k : Nat) : Int) (-1)
section
variable {D : tD} {g : gS} {k e B : Nat}
theorem tQ_h (h : hop D g k) : tQ D g B k = ((qM D g k * B + qC D g k : Nat) : Int) := if_pos h
theorem tQ_n (h : ¬ hop D g k) : tQ D g B k = -1 := if_neg h
theorem tQ_in : 0 ≤ tQ D g B k ↔ hop D g k := by
  rcases Classical.em (hop D g k) with h | h
  · rw [tQ_h h]; exact ⟨fun _ => h, fun _ => by omega⟩
  · rw [tQ_n h]; exact ⟨fun z => by omega, fun z => absurd z h⟩
theorem tQ_0 (hB : 0 < B) : tQ D g B k = 0 ↔ dGoal D (gX g k) = true := by
  rcases Classical.em (hop D g k) with h | h
  · rw [tQ_h h]
    constructor
    · intro z; exact q_goal2 h (by omega)
    · intro z
      obtain ⟨-, h2, h3⟩ := q_goal z
      rw [h2, h3]; simp
  · rw [tQ_n h]
    exact ⟨fun z => by omega, fun z => absurd (q_goal z).1 h⟩
theorem tQ_up (hTg : tgOk g) (hN : gN g ≤ 2000) (hB : 2000 ≤ B) (hk : k < gN g) (he : eIn g k e) (h : 0 ≤ tQ D g B (tg g e)) : 0 ≤ tQ D g B k ∧ tQ D g B k ≤ tQ D g B (tg g e) + ((mE D g e * B + 1 : Nat) : Int) := by
  have hj := tQ_in.mp h
  obtain ⟨hh, h2⟩ := q_up he hj
  refine ⟨tQ_in.mpr hh, ?_⟩
  have hc := qC_lt hTg hk hh
  rw [tQ_h hh, tQ_h hj]
  have key : qM D g k * B + qC D g k ≤ qM D g (tg g e) * B + qC D g (tg g e) + (mE D g e * B + 1) := by
    rcases h2 with z | ⟨z1, z2⟩
    · have := Nat.mul_le_mul_right B (show qM D g k + 1 ≤ qM D g (tg g e) + mE D g e from z)
      rw [Nat.add_mul, Nat.add_mul] at this
      omega
    · rw [z1, Nat.add_mul]
      omega
  omega
theorem tQ_dn (h : 0 < tQ D g B k) : ∃ e, eIn g k e ∧ 0 ≤ tQ D g B (tg g e) ∧ tQ D g B k = tQ D g B (tg g e) + ((mE D g e * B + 1 : Nat) : Int) := by
  have hh : hop D g k := (tQ_in (B := B)).mp (by omega)
  have hc : ∃ c, qC D g k = c + 1 := by
    cases hq : qC D g k with
    | zero =>
      have := q_goal (q_goal2 hh hq)
      rw [tQ_h hh, this.2.1, this.2.2] at h
      simp at h
    | succ c => exact ⟨c, rfl⟩
  obtain ⟨c, hc⟩ := hc
  obtain ⟨e, he, hj, h3, h4⟩ := q_dn hh hc
  refine ⟨e, he, tQ_in.mpr hj, ?_⟩
  rw [tQ_h hh, tQ_h hj, h3, hc, h4, Nat.add_mul]
  omega
/-- a crossing that leads on: minutes and crossings, one by one -/
theorem tQ_eq (hTg : tgOk g) (hN : gN g ≤ 2000) (hB : 2001 ≤ B) (hk : k < gN g) (he : eIn g k e) (hz : 0 ≤ tQ D g B (tg g e)) : (tQ D g B (tg g e) + ((mE D g e * B + 1 : Nat) : Int) = tQ D g B k ↔ (qM D g k = qM D g (tg g e) + mE D g e ∧ qC D g k = qC D g (tg g e) + 1)) := by
  have hj := tQ_in.mp hz
  obtain ⟨hh, h2⟩ := q_up he hj
  have hc := qC_lt hTg hk hh
  have hc2 := qC_lt hTg (hTg k hk e he.1 he.2) hj
  rw [tQ_h hh, tQ_h hj]
  constructor
  · intro z
    have z : qM D g (tg g e) * B + qC D g (tg g e) + (mE D g e * B + 1) = qM D g k * B + qC D g k := by
      have hc2 : qC D g (tg g e) < gN g := hc2
      omega
    rcases h2 with q | ⟨q1, q2⟩
    · exfalso
      have := Nat.mul_le_mul_right B (show qM D g k + 1 ≤ qM D g (tg g e) + mE D g e from q)
      rw [Nat.add_mul, Nat.add_mul] at this
      omega
    · rw [q1, Nat.add_mul] at z
      exact ⟨q1, by omega⟩
  · rintro ⟨z1, z2⟩
    rw [z1, z2, Nat.add_mul]
    omega
end
theorem TP_quick {D : tD} {g : gS} (hTg : tgOk g) (hN : gN g ≤ 2000) : TP D g true (tQ D g 4096) := by
  refine ⟨fun k _ => tQ_0 (by decide), fun k _ => ?_, fun k e hk he h => tQ_up hTg hN (by decide) hk he h, fun k _ h => tQ_dn h⟩
  rcases Classical.em (hop D g k) with h | h
  · rw [tQ_h h]; omega
  · rw [tQ_n h]; omega
theorem TP_few {D : tD} {g : gS} (hTg : tgOk g) (hN : gN g ≤ 2000) : TP D g false (dst D g) := by
  refine ⟨fun k _ => dst_0, fun k hk => (dst_in hTg hN hk).1, fun k e hk he h => dst_up hTg hN hk he.1 he.2 h, fun k hk h => ?_⟩
  obtain ⟨u, hu⟩ : ∃ u : Nat, dst D g k = ((u + 1 : Nat) : Int) := ⟨(dst D g k).toNat - 1, by omega⟩
  obtain ⟨e, e1, e2, e3⟩ := dst_dn hu
  refine ⟨e, ⟨e1, e2⟩, ?_, ?_⟩
  · show 0 ≤ dst D g (gE g e).2.2.2
    rw [e3]; omega
  · show dst D g k = dst D g (gE g e).2.2.2 + 1
    rw [e3, hu]; omega
