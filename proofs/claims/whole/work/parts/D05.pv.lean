/-! ===== between two calls: what both sides share ===== -/
def HL (D : tD) : Prop := dHo D 0 ≤ 999 ∧ dLo D 0 ≤ 999
section
variable {B : Nat → Nat} {n : Nat} {D : tD} {w : Bool}
theorem tCla_hl {p q : Nat} (hD : dOk D) (h : HL D) (hq : (tCla B n D w p).1 = .inl q) : HL (tCla B n D w p).2.1 := by
  unfold tCla at hq ⊢
  by_cases c1 : xW B n p 1 = true
  · rw [if_pos c1]
    show HL (tThing B n D p).2
    unfold tThing
    split <;> exact h
  · rw [if_neg c1] at hq ⊢
    by_cases c2 : xW B n p 2 = true
    · rw [if_pos c2] at hq ⊢
      have hq : (tBoat B n D p).1 = .inl q := hq
      have a := tBoat_ok hD hq
      show HL (tBoat B n D p).2
      unfold tBoat
      rw [if_neg a.1]
      have e1 : dHo (d_B D (xVs B n (tBo1 B n p)) (xVs B n (tBo2 B n p)) (xVs B n (tBo3 B n p))) = fup (dHo D) (dB D) (xVs B n (tBo1 B n p)) := rfl
      have e2 : dLo (d_B D (xVs B n (tBo1 B n p)) (xVs B n (tBo2 B n p)) (xVs B n (tBo3 B n p))) = fup (dLo D) (dB D) (xVs B n (tBo2 B n p)) := rfl
      show HL (d_B D (xVs B n (tBo1 B n p)) (xVs B n (tBo2 B n p)) (xVs B n (tBo3 B n p)))
      unfold HL
      rw [e1, e2]
      have b1 := a.2.2.1.2
      have b2 := a.2.2.2.1
      by_cases c : 0 = dB D
      · rw [← c, fup_y, fup_y]
        exact ⟨by omega, b2⟩
      · rw [fup_n c, fup_n c]
        exact h
    · rw [if_neg c2] at hq ⊢
      by_cases c3 : xW B n p 3 = true
      · rw [if_pos c3]; exact h
      · rw [if_neg c3] at hq ⊢
        by_cases c4 : xW B n p 4 = true
        · rw [if_pos c4]; exact h
        · rw [if_neg c4] at hq ⊢
          by_cases c5 : xW B n p 5 = true
          · rw [if_pos c5]
            show HL (tLamp B n D p).2
            unfold tLamp
            split <;> exact h
          · rw [if_neg c5] at hq ⊢
            by_cases c6 : xW B n p 6 = true
            · rw [if_pos c6]
              show HL (tLaw B n D p).2
              unfold tLaw
              split <;> exact h
            · rw [if_neg c6]; exact h
theorem tRun_hl : ∀ (m : Nat) (a : pA), (∀ q, a.1 = .inl q → q ≤ n ∧ dOk a.2.1 ∧ HL a.2.1) → ∀ q, (tRun B n m a).1 = .inl q → HL (tRun B n m a).2.1 := by
  intro m
  induction m with
  | zero => intro a h q hq; exact (h q hq).2.2
  | succ k ih =>
    intro a h q hq
    obtain ⟨x, D, w⟩ := a
    cases x with
    | inr e =>
      have hq : (.inr e : xT) = .inl q := hq
      cases hq
    | inl p =>
      have hp := h p rfl
      have e : tRun B n (k + 1) (.inl p, D, w) = if xK B n p = 0 then (.inl p, D, w) else tRun B n k (tCl B n D w p) := rfl
      rw [e] at hq ⊢
      by_cases c : xK B n p = 0
      · rw [if_pos c]; exact hp.2.2
      · rw [if_neg c] at hq ⊢
        refine ih _ (fun q1 z => ?_) q hq
        have o := tCl_ok hp.1 hp.2.1 z
        obtain ⟨⟨q2, e2, -, -⟩, o2, o3⟩ := o
        exact ⟨o3.2, o2, tCla_hl hp.2.1 hp.2.2 e2⟩
theorem tAll_hl {q : Nat} (hq : (tAll B n).1 = .inl q) : HL (tEnd (tAll B n)) := by
  have a : HL (tAll B n).2.1 := by
    refine tRun_hl 700 (tHead B n) (fun q z => ?_) q hq
    unfold tHead at z ⊢
    by_cases c : xW B n 0 0 = true
    · rw [if_pos c] at z ⊢
      have z : xNG B n 59 (xNum B n 2 4 (.inl (xE B n 0))) = .inl q := z
      have hg : ∃ q1, xNum B n 2 4 (.inl (xE B n 0)) = .inl q1 := by
        cases hs : xNum B n 2 4 (.inl (xE B n 0)) with
        | inl q1 => exact ⟨q1, rfl⟩
        | inr e' =>
          rw [hs] at z
          unfold xNG at z
          rw [if_neg (fun z => by cases z)] at z
          cases z
      obtain ⟨q1, e1⟩ := hg
      have hE := (xE_r (B := B) (Nat.zero_le n)).2.1
      have b := aft1.ng (B := B) (k := 59) (aft1.num (B := B) (lo := 2) (hi := 4) (s := .inl (xE B n 0)) (p := 0) ⟨Nat.zero_le _, hE⟩)
      rw [z] at b
      exact ⟨b.2, dOk.ini.S (xNum_i e1) rfl rfl rfl, ⟨Nat.zero_le _, Nat.zero_le _⟩⟩
    · rw [if_neg c] at z ⊢
      cases z
      exact ⟨Nat.zero_le _, dOk.ini, ⟨Nat.zero_le _, Nat.zero_le _⟩⟩
  unfold tEnd
  split
  · exact a
  · exact a
end
theorem PO.new {D : tD} (hD : dOk D) : PO D 0 (fun _ => dStart D) (fun _ => 0) := by
  refine ⟨Nat.zero_le _, rfl, rfl, fun i hi => ⟨start_ok hD, Nat.zero_le _, fun hs => ⟨0, ?_, gAll_x0⟩⟩⟩
  exact (gAll_ok (act := acts D (-1)) (ho := dHo D 0) (lo := dLo D 0) hD).1.2
theorem PVs.new {s : sT} {D : tD} (hD : dOk D) (h : HL D) : PVs (sNew s D) := ⟨PO.new hD, hD, h, Nat.zero_le _, ⟨by show (-1 : Int) ≤ -1; decide, by show (-1 : Int) ≤ 700; decide⟩⟩
theorem PVs.flt {s : sT} {e : Nat} (h : PVs s) (he : e ≤ 700) : PVs (sD s, sB s, 0, (e : Int), (sMk s, sPs s, sPm s, sLw s), sK s) := ⟨h.1, h.2.1, h.2.2.1, Nat.zero_le _, ⟨by show (-1 : Int) ≤ (e : Int); omega, by show (e : Int) ≤ 700; omega⟩⟩
theorem PVs.fd {s : sT} {B : Nat → Nat} (h : PVs s) (ht : ¬ 680 < sTp s) : PVs (sD s, B, sTp s + 20, sFp s, (sMk s, sPs s, sPm s, sLw s), sK s) := ⟨h.1, h.2.1, h.2.2.1, by show sTp s + 20 ≤ 700; omega, h.2.2.2.2⟩
theorem PVs.cr {s : sT} {x1 x2 x3 : Int} (h : PVs s) (h3 : inR x3) : PVs (sD s, sB s, sTp s, sFp s, (nMk (sD s) (sMk s) (sPs s (sMk s)) x1 x2 x3, nPs (sD s) (sMk s) (sPs s) x1 x2 x3, nPm (sD s) (sMk s) (sPs s (sMk s)) (sPm s) x1 x2 x3, crW (sD s) (sMk s) (sPs s (sMk s)) x1 x2 x3), sK s) := ⟨h.1.next h.2.1 h3 (gAll_ok h.2.1), h.2⟩
theorem PVs.bk {s : sT} (h : PVs s) : PVs (sD s, sB s, sTp s, sFp s, (sMk s - 1, sPs s, sPm s, sLw s), sK s) := by
  obtain ⟨⟨a, b, c, e⟩, h2⟩ := h
  refine ⟨⟨?_, b, c, fun i hi => e i ?_⟩, h2⟩
  · show sMk s - 1 ≤ 60
    omega
  · have hi : i ≤ sMk s - 1 := hi
    omega
theorem PVs.k0 {s : sT} (h : PVs s) : ∃ k0, gSp (G0 (sD s)) = false → k0 < gN (G0 (sD s)) ∧ gX (G0 (sD s)) k0 = sPs s (sMk s) := by
  by_cases c : gSp (G0 (sD s)) = false
  · obtain ⟨k, hk⟩ := (h.1.2.2.2 (sMk s) (Nat.le_refl _)).2.2 c
    exact ⟨k, fun _ => hk⟩
  · exact ⟨0, fun z => absurd z c⟩
section
variable {sc : mS} {d : Nat} {t : zT} {I J I' J' : Nat → Nat → Int} {Q : zR → zW → Prop} {s : sT} {n : Nat}
/-- a call of the class leaves the reference -/
theorem RIv.cf (h : RIv I s) (hf : cFr I J I' J') : RIv I' s := by
  have fa : ∀ a, 1835 ≤ a → a < 3392 → I' a = I a := fun a h1 h2 => (hf a h1 h2).1
  have e : ∀ k, I' 1835 k = I 1835 k := fun k => by rw [fa 1835 (by decide) (by decide)]
  obtain ⟨⟨a1, a2⟩, ⟨a3, a4, a5, a6⟩, a7, a8, a9, a10, a11⟩ := h
  have V5 : RV I' (sD s) (dHo (sD s) 0) (dLo (sD s) 0) := ⟨a1.1.fr (fun k _ => e k) (fun a ha => fa a (by omega) (by omega)), fun S p q l z1 z2 z3 z4 z5 => by rw [fa 2612 (by decide) (by decide)]; exact a1.2.1 S p q l z1 z2 z3 z4 z5, a1.2.2⟩
  exact ⟨⟨V5, (e 52).trans a2⟩, ⟨a3.gen (fun k _ => e k) (fun a ha => fa a (by omega) (by omega)), a4.to (fun k _ => e k), a5.to (fa 3252 (by decide) (by decide)), a6.to (e 82)⟩, a7.to (fun k _ => e k) (fun a ha => fa a (by omega) (by omega)), a8.to (fun k _ => e k) (fun a ha => fa a (by omega) (by omega)), a9.to (fa 2196 (by decide) (by decide)), (e 18).trans a10, (e 20).trans a11⟩
/-- a call of the reference leaves the class -/
theorem CIv.rf (h : CIv t I s n) (hf : rFr I J I' J') : CIv t I' s n := by
  obtain ⟨⟨h1, h2, h3⟩, ⟨h4, h5, h6⟩, ⟨h7, h8⟩, h9, h10, h11⟩ := h
  have e : ∀ a, a < 1835 ∨ 3360 < a → I' a = I a := fun a ha => (hf a ha).1
  have lo : ∀ a, a < 800 → I' a = I a := fun a ha => e a (by omega)
  refine ⟨⟨⟨h1.1, h1.2.1, h1.2.2.1.up rfl (fun a ha => e a (by omega)), fun b i hi => ?_⟩, h2, fun b => (h3 b).low lo⟩, ⟨h4.to (lo 85 (by decide)), by rw [lo 42 (by decide)]; exact h5, by rw [lo 42 (by decide)]; exact h6⟩, ⟨h7.gen rfl rfl rfl rfl (fun _ => rfl) (fun _ c => c.fr (lo _ (zmd_lt _)) (fun k => lo _ (zmf_lt _ k))) (fun a ha => e a (by omega)), h8.to (e 1481 (by decide))⟩, h9.to (e 1510 (by decide)), h10.to (e 1672 (by decide)) (e 1716 (by decide)), h11.to (e 1732 (by decide)) (e 1780 (by decide)) (e 1812 (by decide))⟩
  rw [lo _ (zmf_lt b 6), lo _ (zmf_lt b 7)]
  exact h1.2.2.2 b i hi
theorem Go_eq {M : mM} {pc : Nat} {ls st st' : List zV} {w : zW} (e : st.map z_v = st'.map z_v) (h : Go sc d M pc ls st' w Q) : Go sc d M pc ls st w Q := by
  unfold Go at h ⊢
  rw [e]
  exact h
theorem Go_w1 {M : mM} {pc : Nat} {ls st : List zV} {w : zW} {x : Int} (h : Go sc d M pc ls (vi (wr x) :: st) w Q) : Go sc d M pc ls (vi x :: st) w Q := by
  refine Go_eq ?_ h
  show z_v (vi x) :: st.map z_v = z_v (vi (wr x)) :: st.map z_v
  have e : z_v (vi x) = z_v (vi (wr x)) := by
    show Value.int (Int32.ofInt x) = Value.int (Int32.ofInt (wr x))
    rw [wr_of]
  rw [e]
theorem Go_w2 {M : mM} {pc : Nat} {ls : List zV} {w : zW} {x y : Int} (h : Go sc d M pc ls [vi (wr x), vi (wr y)] w Q) : Go sc d M pc ls [vi x, vi y] w Q := by
  refine Go_eq ?_ h
  show [z_v (vi x), z_v (vi y)] = [z_v (vi (wr x)), z_v (vi (wr y))]
  have e : ∀ x : Int, z_v (vi x) = z_v (vi (wr x)) := fun x => by
    show Value.int (Int32.ofInt x) = Value.int (Int32.ofInt (wr x))
    rw [wr_of]
  rw [e x, e y]
/-- a caught throw -/
theorem z_kx {M : mM} {pc pc' e : Nat} {ls ls' st : List zV} {w : zW} {h : Nat × Nat × Nat × Nat} {hs : List (Nat × Nat × Nat × Nat)} (hM : m_Mh M = h :: hs) (he : m_hd M pc (ls.map z_v) e = some (some (pc', ls'.map z_v))) (k : Go sc d M pc' ls' [] w Q) : z_k sc d M false pc ls st Q (.inr e) w := by
  show cond false False (match m_Mh M with
    | [] => Q (.inr e) w
    | _ :: _ => ∃ (pc' : Nat) (ls' : List zV), m_hd M pc (ls.map z_v) e = some (some (pc', ls'.map z_v)) ∧ Go sc d M pc' ls' [] w Q)
  rw [hM]
  exact ⟨pc', ls', he, k⟩
theorem zlc_s {x : Int} : zlc x x = 0 := by
  unfold zlc
  rw [if_neg (by omega), if_pos rfl]
theorem inL_of {x : Int} (h : inR x) : inL x := by
  unfold inR at h
  unfold inL
  omega
/-- what holds between two calls of the law -/
def LIv (t : zT) (I : Nat → Nat → Int) (s : sT) (n : Nat) : Prop := CIv t I s n ∧ RIv I s ∧ PVs s
/-- what goes on behind a call of the law -/
def NX (sc : mS) (d : Nat) (Q : zR → zW → Prop) (x4 : Int) (t : zT) (n : Nat) : Prop := ∀ (t' : zT) (I' J' : Nat → Nat → Int) (s' : sT) (n' : Nat) (v5 v6 : zV), LIv t' I' s' n' → n' ≤ n + 1001 → tRo t t' → Go sc d mt_283 1436 [vr 56, vr 42, vr 1835, vr 3383, vi x4, v5, v6] [] (z_cfg t', I', J') Q
theorem wIn (sc : mS) (k : Nat) : inR (sc.2 k).toInt := ⟨Int32.le_toInt _, Int32.toInt_lt _⟩
end
