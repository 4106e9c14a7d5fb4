/-! runs, and what each instruction wants -/
theorem m_run_up {G : Nat → Option mM} {sc : mS} : ∀ (f d : Nat) (M : mM) (pc : Nat) (ls st : List Value) (w : mW) (r : mR × mW), m_run G sc f d M pc ls st w = some r → m_run G sc (f + 1) d M pc ls st w = some r := by
  intro f
  induction f with
  | zero => intro d M pc ls st w r h; exact absurd h (by simp [m_run])
  | succ f ih =>
    intro d M pc ls st w r h
    rw [m_run] at h
    rw [m_run]
    cases hs : m_step sc M pc ls st w with
    | none => rw [hs] at h; cases h
    | some q =>
      rw [hs] at h
      rcases q with ⟨pc', ls', st', w'⟩ | ⟨mj, args, rest⟩ | q
      · exact ih _ _ _ _ _ _ _ h
      · dsimp only at h ⊢
        cases d with
        | zero => exact absurd h (by simp)
        | succ d' =>
          cases hg : G mj with
          | none => rw [hg] at h; exact absurd h (by simp)
          | some Mj =>
            rw [hg] at h
            dsimp only at h ⊢
            cases hc : m_run G sc f d' Mj 0 (m_en args (m_Ml Mj)) [] w with
            | none => rw [hc] at h; exact absurd h (by simp)
            | some p =>
              rw [hc] at h
              rw [ih _ _ _ _ _ _ _ hc]
              rcases p with ⟨v | e, w'⟩
              · exact ih _ _ _ _ _ _ _ h
              · dsimp only at h ⊢
                cases hh : m_hd M pc ls e with
                | none => rw [hh] at h; exact absurd h (by simp)
                | some o =>
                  rw [hh] at h
                  rcases o with _ | ⟨pc', ls'⟩
                  · exact h
                  · exact ih _ _ _ _ _ _ _ h
      · exact h
theorem m_run_le {G : Nat → Option mM} {sc : mS} {f f' d : Nat} {M : mM} {pc : Nat} {ls st : List Value} {w : mW} {r : mR × mW} (hf : f ≤ f') (h : m_run G sc f d M pc ls st w = some r) : m_run G sc f' d M pc ls st w = some r := by
  induction hf with
  | refl => exact h
  | step _ ih => exact m_run_up _ _ _ _ _ _ _ _ ih
def Go (sc : mS) (d : Nat) (M : mM) (pc : Nat) (ls st : List zV) (w : zW) (Q : zR → zW → Prop) : Prop := ∃ (f : Nat) (r : zR) (w' : zW), m_run m_G sc f d M pc (ls.map z_v) (st.map z_v) (z_w w) = some (z_r r, z_w w') ∧ Q r w'
theorem Go_step {sc : mS} {d : Nat} {M : mM} {pc pc' : Nat} {ls ls' st st' : List zV} {w w' : zW} {Q : zR → zW → Prop} (h : m_step sc M pc (ls.map z_v) (st.map z_v) (z_w w) = some (.inl (pc', ls'.map z_v, st'.map z_v, z_w w'))) (k : Go sc d M pc' ls' st' w' Q) : Go sc d M pc ls st w Q := by
  obtain ⟨f, r, w1, h1, h2⟩ := k
  refine ⟨f + 1, r, w1, ?_, h2⟩
  rw [m_run, h]
  exact h1
theorem Go_end {sc : mS} {d : Nat} {M : mM} {pc : Nat} {ls st : List zV} {w w' : zW} {Q : zR → zW → Prop} {r : zR} (h : m_step sc M pc (ls.map z_v) (st.map z_v) (z_w w) = some (.inr (.inr (z_r r, z_w w')))) (k : Q r w') : Go sc d M pc ls st w Q := by
  refine ⟨1, r, w', ?_, k⟩
  rw [m_run, h]
theorem Go.imp {sc : mS} {d : Nat} {M : mM} {pc : Nat} {ls st : List zV} {w : zW} {Q Q' : zR → zW → Prop} (h : Go sc d M pc ls st w Q) (k : ∀ r w', Q r w' → Q' r w') : Go sc d M pc ls st w Q' := by
  obtain ⟨f, r, w1, h1, h2⟩ := h
  exact ⟨f, r, w1, h1, k _ _ h2⟩
def z_en (args : List zV) (n : Nat) : List zV := args ++ List.replicate (n - args.length) (.inr (.inr none))
theorem z_en_m (args : List zV) (n : Nat) : (z_en args n).map z_v = m_en (args.map z_v) n := by
  unfold z_en m_en
  rw [List.map_append, List.map_replicate, List.length_map]
  rfl
/-- a call of the method mj -/
def Cl (sc : mS) (d mj : Nat) (args : List zV) (w : zW) (K : zR → zW → Prop) : Prop := ∃ (d' : Nat) (Mj : mM), d = d' + 1 ∧ m_G mj = some Mj ∧ Go sc d' Mj 0 (z_en args (m_Ml Mj)) [] w K
/-- what goes on behind a call -/
def z_k (sc : mS) (d : Nat) (M : mM) (sp : Bool) (pc : Nat) (ls st : List zV) (Q : zR → zW → Prop) : zR → zW → Prop := fun r w => match r with
  | .inl (some v) => Go sc d M (pc + 3) ls (v :: st) w Q
  | .inl none => Go sc d M (pc + 3) ls st w Q
  | .inr e => cond sp False (match m_Mh M with
    | [] => Q (.inr e) w
    | _ :: _ => ∃ (pc' : Nat) (ls' : List zV), m_hd M pc (ls.map z_v) e = some (some (pc', ls'.map z_v)) ∧ Go sc d M pc' ls' [] w Q)
theorem Go_call {sc : mS} {d : Nat} {M : mM} {pc mj : Nat} {sp : Bool} {ls st args rest : List zV} {w : zW} {Q : zR → zW → Prop} (h : m_step sc M pc (ls.map z_v) (st.map z_v) (z_w w) = some (.inr (.inl (mj, args.map z_v, rest.map z_v)))) (hsp : sp = false → ∀ i l x, m_Mc M pc ≠ some (.invokespecial i, l, x)) (k : Cl sc d mj args w (z_k sc d M sp pc ls rest Q)) : Go sc d M pc ls st w Q := by
  obtain ⟨d', Mj, rfl, hg, f, r, w1, h1, h2⟩ := k
  rw [z_en_m, List.map_nil] at h1
  have key : ∀ (f2 : Nat) (r2 : zR) (w2 : zW), (match r with
      | .inl v => m_run m_G sc f2 (d' + 1) M (pc + 3) (ls.map z_v) ((v.toList ++ rest).map z_v) (z_w w1)
      | .inr e => match m_hd M pc (ls.map z_v) e with
        | none => none
        | some none => some (.inr e, z_w w1)
        | some (some (pc', ls')) => m_run m_G sc f2 (d' + 1) M pc' ls' [] (z_w w1)) = some (z_r r2, z_w w2) → Q r2 w2 → Go sc (d' + 1) M pc ls st w Q := by
    intro f2 r2 w2 e hQ
    refine ⟨max f f2 + 1, r2, w2, ?_, hQ⟩
    rw [m_run, h]
    dsimp only
    rw [hg]
    dsimp only
    rw [m_run_le (Nat.le_max_left f f2) h1]
    rcases r with v | e0
    · dsimp only [z_r] at e ⊢
      rw [show ((v.map z_v).toList ++ rest.map z_v) = (v.toList ++ rest).map z_v by cases v <;> simp]
      exact m_run_le (Nat.le_max_right f f2) e
    · dsimp only [z_r] at e ⊢
      cases hh : m_hd M pc (ls.map z_v) e0 with
      | none => rw [hh] at e; cases e
      | some o =>
        rw [hh] at e
        rcases o with _ | ⟨pc', ls'⟩
        · exact e
        · exact m_run_le (Nat.le_max_right f f2) e
  rcases r with v | e0
  · cases v with
    | none =>
      obtain ⟨f2, r2, w2, e, hQ⟩ := (show Go sc (d' + 1) M (pc + 3) ls rest w1 Q from h2)
      exact key f2 r2 w2 e hQ
    | some v =>
      obtain ⟨f2, r2, w2, e, hQ⟩ := (show Go sc (d' + 1) M (pc + 3) ls (v :: rest) w1 Q from h2)
      exact key f2 r2 w2 e hQ
  · cases sp with
    | true => exact h2.elim
    | false =>
      have h3 : (match m_Mh M with
        | [] => Q (.inr e0) w1
        | _ :: _ => ∃ (pc' : Nat) (ls' : List zV), m_hd M pc (ls.map z_v) e0 = some (some (pc', ls'.map z_v)) ∧ Go sc (d' + 1) M pc' ls' [] w1 Q) := h2
      cases hm : m_Mh M with
      | nil =>
        rw [hm] at h3
        have hh : m_hd M pc (ls.map z_v) e0 = some none := by
          unfold m_hd
          split
          · rename_i i l x hc
            exact absurd hc (hsp rfl _ _ _)
          · rw [hm]
        exact key 0 (.inr e0) w1 (by dsimp only; rw [hh]; rfl) h3
      | cons a t =>
        rw [hm] at h3
        obtain ⟨pc', ls', hh, f2, r2, w2, e, hQ⟩ := h3
        exact key f2 r2 w2 (by dsimp only; rw [hh]; exact e) hQ
/-! ===== worlds by lists: kind, length, references of each cell ===== -/
abbrev zL : Type := List (Nat × Nat × List Nat)
abbrev zX : Type := zL × Nat × (Nat → Nat → Int) × (Nat → Nat → Int)
def z_cK (l : zL) (k : Nat) : Nat := match l[k]? with
  | some q => q.1
  | none => 0
def z_cN (l : zL) (a : Nat) : Nat := match l[a / 32 - 1]? with
  | some q => cond (Nat.beq (a % 32) q.1 && Nat.ble 32 a) q.2.1 0
  | none => 0
def z_cP (l : zL) (a k : Nat) : Nat := match l[a / 32 - 1]? with
  | some q => cond (Nat.beq (a % 32) q.1 && Nat.ble 32 a) (q.2.2.getD k 0) 0
  | none => 0
def z_cfgL (l : zL) (s : Nat) : zC := (l.length, s, z_cK l, z_cN l, z_cP l)
abbrev z_x (w : zX) : zW := (z_cfgL w.1 w.2.1, w.2.2.1, w.2.2.2)
def z_fP (l : zL) (a k : Nat) : Option Nat := match l[a / 32 - 1]? with
  | some q => cond (Nat.beq (a % 32) q.1 && Nat.ble 32 a) (q.2.2[k]?) none
  | none => none
def z_fN (l : zL) (a : Nat) : Option Nat := match l[a / 32 - 1]? with
  | some q => cond (Nat.beq (a % 32) q.1 && Nat.ble 32 a) (some q.2.1) none
  | none => none
theorem z_fP_s {l : zL} {s a k q : Nat} (h : z_fP l a k = some q) : (z_cfgL l s).2.2.2.2 a k = q := by
  show z_cP l a k = q
  unfold z_fP at h
  unfold z_cP
  cases hp : l[a / 32 - 1]? with
  | none => rw [hp] at h; cases h
  | some p =>
    rw [hp] at h
    dsimp only at h ⊢
    cases hb : (Nat.beq (a % 32) p.1 && Nat.ble 32 a) with
    | true =>
      rw [hb] at h
      show p.2.2.getD k 0 = q
      rw [List.getD_eq_getElem?_getD, show p.2.2[k]? = some q from h]
      rfl
    | false => rw [hb] at h; cases h
theorem z_fN_s {l : zL} {s a n : Nat} (h : z_fN l a = some n) : (z_cfgL l s).2.2.2.1 a = n := by
  show z_cN l a = n
  unfold z_fN at h
  unfold z_cN
  cases hp : l[a / 32 - 1]? with
  | none => rw [hp] at h; cases h
  | some p =>
    rw [hp] at h
    dsimp only at h ⊢
    cases hb : (Nat.beq (a % 32) p.1 && Nat.ble 32 a) with
    | true => rw [hb] at h; cases h; rfl
    | false => rw [hb] at h; cases h
/-- a row's references changed -/
def z_sP (l : zL) (a k v : Nat) : zL := match l[a / 32 - 1]? with
  | some q => l.set (a / 32 - 1) (q.1, q.2.1, q.2.2.set k v)
  | none => l
theorem z_sP_m {l : zL} {s a k v q : Nat} {I J : Nat → Nat → Int} (h : z_fP l a k = some q) : z_wP (z_cfgL l s, I, J) a k v = (z_cfgL (z_sP l a k v) s, I, J) := by
  unfold z_fP at h
  split at h
  · rename_i p hp
    cases hb : (Nat.beq (a % 32) p.1 && Nat.ble 32 a) with
    | false => rw [hb] at h; cases h
    | true =>
      rw [hb] at h
      have hk : p.2.2[k]? = some q := h
      have hlt := (List.getElem?_eq_some_iff.mp hp).1
      have hkl := (List.getElem?_eq_some_iff.mp hk).1
      obtain ⟨b1, b2⟩ := Bool.and_eq_true_iff.mp hb
      have b1 := Nat.eq_of_beq_eq_true b1
      have b2 := Nat.le_of_ble_eq_true b2
      have e : z_sP l a k v = l.set (a / 32 - 1) (p.1, p.2.1, p.2.2.set k v) := by unfold z_sP; rw [hp]
      rw [e]
      have g : ∀ i, (l.set (a / 32 - 1) (p.1, p.2.1, p.2.2.set k v))[i]? = if i = a / 32 - 1 then some (p.1, p.2.1, p.2.2.set k v) else l[i]? := by
        intro i
        rw [List.getElem?_set]
        by_cases hi : a / 32 - 1 = i
        · subst hi
          rw [if_pos rfl, if_pos rfl, if_pos hlt]
        · rw [if_neg hi, if_neg (fun z => hi z.symm)]
      have e1 : z_cK (l.set (a / 32 - 1) (p.1, p.2.1, p.2.2.set k v)) = z_cK l := by
        funext i
        unfold z_cK
        rw [g]
        by_cases hi : i = a / 32 - 1
        · subst hi; rw [if_pos rfl, hp]
        · rw [if_neg hi]
      have e2 : z_cN (l.set (a / 32 - 1) (p.1, p.2.1, p.2.2.set k v)) = z_cN l := by
        funext x
        unfold z_cN
        rw [g]
        by_cases hi : x / 32 - 1 = a / 32 - 1
        · rw [if_pos hi, hi, hp]
        · rw [if_neg hi]
      have e3 : z_cP (l.set (a / 32 - 1) (p.1, p.2.1, p.2.2.set k v)) = z_uP (z_cP l) a k v := by
        funext x j
        unfold z_uP z_cP
        rw [g]
        by_cases hx : x = a
        · subst hx
          rw [if_pos rfl, if_pos rfl]
          dsimp only
          rw [hb, cond_true, List.getD_eq_getElem?_getD, List.getElem?_set]
          by_cases hj : k = j
          · subst hj; rw [if_pos rfl, if_pos rfl, if_pos hkl]; rfl
          · rw [if_neg hj, if_neg (fun z => hj z.symm), hp]
            dsimp only
            rw [hb, cond_true, List.getD_eq_getElem?_getD]
        · rw [if_neg hx]
          by_cases hi : x / 32 - 1 = a / 32 - 1
          · rw [if_pos hi, hi, hp]
            have hb2 : (Nat.beq (x % 32) p.1 && Nat.ble 32 x) = false := by
              cases hb3 : (Nat.beq (x % 32) p.1 && Nat.ble 32 x) with
              | false => rfl
              | true =>
                obtain ⟨c1, c2⟩ := Bool.and_eq_true_iff.mp hb3
                have c1 := Nat.eq_of_beq_eq_true c1
                have c2 := Nat.le_of_ble_eq_true c2
                exact absurd (by omega) hx
            dsimp only
            rw [hb2]
            rfl
          · rw [if_neg hi]
      unfold z_cfgL
      rw [e1, e2, e3, List.length_set]
      rfl
  · cases h
def z_zr (I : Nat → Nat → Int) (a : Nat) : Nat → Nat → Int := fun i j => if i = a then 0 else I i j
def z_nl (l : zL) (kd ln nf : Nat) : zL := l ++ [(kd, ln, List.replicate nf 0)]
theorem z_nl_m (l : zL) (s kd ln sl nf : Nat) (I J : Nat → Nat → Int) (hk : kd < 32) : z_mk (z_cfgL l s, I, J) kd ln sl = (z_cfgL (z_nl l kd ln nf) (s + sl), z_zr I (32 * (l.length + 1) + kd), z_zr J (32 * (l.length + 1) + kd)) := by
  have g : ∀ i, (l ++ [(kd, ln, List.replicate nf 0)])[i]? = if i = l.length then some (kd, ln, List.replicate nf 0) else l[i]? := by
    intro i
    rw [List.getElem?_append]
    by_cases h1 : i < l.length
    · rw [if_pos h1, if_neg (by omega)]
    · rw [if_neg h1]
      by_cases h2 : i = l.length
      · subst h2; rw [if_pos rfl, Nat.sub_self]; rfl
      · rw [if_neg h2, List.getElem?_eq_none (by simp; omega), List.getElem?_eq_none (by omega)]
  have hn : l[l.length]? = none := List.getElem?_eq_none (Nat.le_refl _)
  have e1 : (fun k => if k = l.length then kd else z_cK l k) = z_cK (l ++ [(kd, ln, List.replicate nf 0)]) := by
    funext k
    unfold z_cK
    rw [g]
    by_cases h : k = l.length
    · rw [if_pos h, if_pos h]
    · rw [if_neg h, if_neg h]
  have key : ∀ x, ¬ x = 32 * (l.length + 1) + kd → x / 32 - 1 = l.length → (Nat.beq (x % 32) kd && Nat.ble 32 x) = false := by
    intro x hx hi
    cases hb3 : (Nat.beq (x % 32) kd && Nat.ble 32 x) with
    | false => rfl
    | true =>
      obtain ⟨c1, c2⟩ := Bool.and_eq_true_iff.mp hb3
      have c1 := Nat.eq_of_beq_eq_true c1
      have c2 := Nat.le_of_ble_eq_true c2
      exact absurd (by omega) hx
  have e0 : (32 * (l.length + 1) + kd) / 32 - 1 = l.length := by omega
  have eb : (Nat.beq ((32 * (l.length + 1) + kd) % 32) kd && Nat.ble 32 (32 * (l.length + 1) + kd)) = true := by
    rw [show (32 * (l.length + 1) + kd) % 32 = kd by omega, Nat.beq_refl, Nat.ble_eq_true_of_le (by omega)]
    rfl
  have e2 : (fun i => if i = 32 * (l.length + 1) + kd then ln else z_cN l i) = z_cN (l ++ [(kd, ln, List.replicate nf 0)]) := by
    funext x
    unfold z_cN
    rw [g]
    by_cases hx : x = 32 * (l.length + 1) + kd
    · subst hx
      rw [if_pos rfl, if_pos e0]
      dsimp only
      rw [eb]
      rfl
    · rw [if_neg hx]
      by_cases hi : x / 32 - 1 = l.length
      · rw [if_pos hi, hi, hn]
        dsimp only
        rw [key x hx hi]
        rfl
      · rw [if_neg hi]
  have e3 : (fun i j => if i = 32 * (l.length + 1) + kd then 0 else z_cP l i j) = z_cP (l ++ [(kd, ln, List.replicate nf 0)]) := by
    funext x j
    unfold z_cP
    rw [g]
    by_cases hx : x = 32 * (l.length + 1) + kd
    · subst hx
      rw [if_pos rfl, if_pos e0]
      dsimp only
      rw [eb, cond_true, List.getD_eq_getElem?_getD, List.getElem?_replicate]
      split <;> rfl
    · rw [if_neg hx]
      by_cases hi : x / 32 - 1 = l.length
      · rw [if_pos hi, hi, hn]
        dsimp only
        rw [key x hx hi]
        rfl
      · rw [if_neg hi]
  unfold z_nl z_cfgL
  rw [← e1, ← e2, ← e3, List.length_append]
  rfl
def x_wI (w : zX) (a k : Nat) (v : Int) : zX := (w.1, w.2.1, z_u w.2.2.1 a k v, w.2.2.2)
def x_wJ (w : zX) (a k : Nat) (v : Int) : zX := (w.1, w.2.1, w.2.2.1, z_u w.2.2.2 a k v)
def x_wP (w : zX) (a k v : Nat) : zX := (z_sP w.1 a k v, w.2.1, w.2.2)
theorem x_wI_m (w : zX) (a k : Nat) (v : Int) : z_x (x_wI w a k v) = z_wI (z_x w) a k v := rfl
theorem x_wJ_m (w : zX) (a k : Nat) (v : Int) : z_x (x_wJ w a k v) = z_wJ (z_x w) a k v := rfl
theorem x_wP_m {w : zX} {a k v q : Nat} (h : z_fP w.1 a k = some q) : z_x (x_wP w a k v) = z_wP (z_x w) a k v := (z_sP_m h).symm
def z_ar (l : zL) (a : Nat) (P : Nat → Prop) : Prop := match z_fN l a with
  | some n => cond (Nat.ble n 60000) (P n) False
  | none => False
theorem z_ar_s {l : zL} {a : Nat} {P : Nat → Prop} (s : Nat) (h : z_ar l a P) : ∃ n, (z_cfgL l s).2.2.2.1 a = n ∧ n ≤ 60000 ∧ P n := by
  unfold z_ar at h
  split at h
  · rename_i n hn
    cases hb : Nat.ble n 60000 with
    | true => rw [hb] at h; exact ⟨n, z_fN_s hn, Nat.le_of_ble_eq_true hb, h⟩
    | false => rw [hb] at h; exact h.elim
  · exact h.elim
/-! the heap -/
def z_gf (x : List Nat) (st : List zV) (w : zX) (k : List zV → Prop) : Prop := match x, st with
  | ci :: fk :: tc :: _, .inr (.inl a) :: r => cond (Nat.beq (a % 32) (ci + 1)) (match tc with
    | 0 => k (.inl (w.2.2.1 a fk) :: r)
    | 1 => k (.inl (w.2.2.1 a fk) :: r)
    | 2 => match z_fP w.1 a fk with
      | some q => k (.inr (.inl q) :: r)
      | none => False
    | 3 => k (.inr (.inr (some (w.2.2.2 a fk))) :: r)
    | _ => False) False
  | _, _ => False
theorem z_cond {b : Bool} {P : Prop} (h : cond b P False) : b = true ∧ P := by
  cases b with
  | true => exact ⟨rfl, h⟩
  | false => exact h.elim
theorem z_gf_m {x : List Nat} {st : List zV} {w : zX} {k : List zV → Prop} (h : z_gf x st w k) : ∃ t, m_gf x (st.map z_v) (z_w (z_x w)) = some (t.map z_v) ∧ k t := by
  unfold z_gf at h
  split at h
  · obtain ⟨h1, h⟩ := z_cond h
    have h2 := Nat.eq_of_beq_eq_true h1
    simp only [List.map_cons, z_v, m_gf, if_pos h2]
    split at h
    · exact ⟨_, rfl, h⟩
    · exact ⟨_, rfl, h⟩
    · split at h
      · rename_i q hq
        refine ⟨_, ?_, h⟩
        have e : m_P (z_w (z_x w)) _ _ = q := z_fP_s (s := w.2.1) hq
        simp only [m_rd, e, List.map_cons, z_v]
      · exact h.elim
    · exact ⟨_, rfl, h⟩
    · exact h.elim
  · exact h.elim
def z_pf (x : List Nat) (st : List zV) (w : zX) (k : List zV → zX → Prop) : Prop := match x, st with
  | ci :: fk :: tc :: _, v :: .inr (.inl a) :: r => cond (Nat.beq (a % 32) (ci + 1)) (match tc, v with
    | 0, .inl y => k r (x_wI w a fk y)
    | 1, .inl y => (y = 0 ∨ y = 1) ∧ k r (x_wI w a fk y)
    | 2, .inr (.inl q) => match z_fP w.1 a fk with
      | some _ => k r (x_wP w a fk q)
      | none => False
    | 3, .inr (.inr (some j)) => k r (x_wJ w a fk j)
    | _, _ => False) False
  | _, _ => False
theorem z_pf_m {x : List Nat} {st : List zV} {w : zX} {k : List zV → zX → Prop} (h : z_pf x st w k) : ∃ t w', m_pf x (st.map z_v) (z_w (z_x w)) = some (t.map z_v, z_w (z_x w')) ∧ k t w' := by
  unfold z_pf at h
  split at h
  · obtain ⟨h1, h⟩ := z_cond h
    have h2 := Nat.eq_of_beq_eq_true h1
    simp only [List.map_cons, z_v, m_pf, if_pos h2]
    split at h
    · exact ⟨_, _, by simp only [z_v, m_wr, x_wI_m, z_wI_m], h⟩
    · rename_i y _h
      refine ⟨_, _, ?_, h.2⟩
      have h3 : Int32.ofInt y = 0 ∨ Int32.ofInt y = 1 := h.1.imp (fun q => by rw [q]; rfl) (fun q => by rw [q]; rfl)
      simp only [z_v, m_wr, if_pos h3, x_wI_m, z_wI_m]
    · split at h
      · rename_i q0 hq
        exact ⟨_, _, by simp only [z_v, m_wr, x_wP_m hq, z_wP_m], h⟩
      · exact h.elim
    · exact ⟨_, _, by simp only [z_v, m_wr, x_wJ_m, z_wJ_m], h⟩
    · exact h.elim
  · exact h.elim
theorem z_idx {i : Int} {n : Nat} (h0 : 0 ≤ i) (h1 : i < n) (hn : n ≤ 60000) : ¬ (Int32.ofInt i < 0 ∨ n ≤ (Int32.ofInt i).toNatClampNeg) ∧ (Int32.ofInt i).toNatClampNeg = i.toNat := by
  have e : (Int32.ofInt i).toInt = i := Int32.toInt_ofInt_of_le (by omega) (by omega)
  have e2 : (Int32.ofInt i).toNatClampNeg = i.toNat := by
    show (Int32.ofInt i).toInt.toNat = _
    rw [e]
  refine ⟨fun q => ?_, e2⟩
  rcases q with q | q
  · rw [Int32.lt_iff_toInt_lt, e] at q
    have : i < 0 := q
    omega
  · rw [e2] at q
    omega
def z_ail (sc : mS) (st : List zV) (w : zX) (k : List zV → Prop) : Prop := match st with
  | .inl i :: .inr (.inl a) :: r => cond (Nat.beq (a % 32) 20) (z_ar w.1 a (fun n => (0 ≤ i ∧ i < (n : Int)) ∧ k (.inl (w.2.2.1 a i.toNat) :: r)))
    (cond (Nat.beq (a % 32) 24) ((0 ≤ i ∧ i < (sc.1 : Int) ∧ sc.1 ≤ 60000) ∧ k (.inl (sc.2 i.toNat).toInt :: r)) False)
  | _ => False
theorem z_ail_m {sc : mS} {st : List zV} {w : zX} {k : List zV → Prop} (h : z_ail sc st w k) : ∃ t, m_al .iaload sc (st.map z_v) (z_w (z_x w)) = some (t.map z_v) ∧ k t := by
  unfold z_ail at h
  split at h
  · rename_i i a r
    cases hb : Nat.beq (a % 32) 20 with
    | true =>
      rw [hb] at h
      have h1 := Nat.eq_of_beq_eq_true hb
      obtain ⟨n, hN, h2, ⟨h3, h4⟩, h5⟩ := z_ar_s w.2.1 h
      obtain ⟨g1, g2⟩ := z_idx h3 h4 h2
      refine ⟨_, ?_, h5⟩
      simp only [List.map_cons, z_v, m_al, m_ai, if_pos h1]
      rw [show m_N (z_w (z_x w)) a = n from hN, if_neg g1, g2]
      rfl
    | false =>
      rw [hb] at h
      have h0 : ¬ a % 32 = 20 := fun q => by rw [q] at hb; cases hb
      obtain ⟨h2, ⟨h3, h4, h6⟩, h5⟩ := z_cond h
      have h1 := Nat.eq_of_beq_eq_true h2
      obtain ⟨g1, g2⟩ := z_idx h3 h4 h6
      refine ⟨_, ?_, h5⟩
      simp only [List.map_cons, z_v, m_al, m_ai, if_neg h0, if_pos h1]
      rw [if_neg g1, g2]
      simp only [m_pu, Int32.ofInt_toInt]
  · exact h.elim
def z_abl (st : List zV) (w : zX) (k : List zV → Prop) : Prop := match st with
  | .inl i :: .inr (.inl a) :: r => cond (Nat.beq (a % 32) 21 || Nat.beq (a % 32) 22) (z_ar w.1 a (fun n => (0 ≤ i ∧ i < (n : Int)) ∧ k (.inl (w.2.2.1 a i.toNat) :: r))) False
  | _ => False
theorem z_or2 {a x y : Nat} (h : (Nat.beq a x || Nat.beq a y) = true) : a = x ∨ a = y := by
  rcases Bool.or_eq_true_iff.mp h with q | q
  · exact Or.inl (Nat.eq_of_beq_eq_true q)
  · exact Or.inr (Nat.eq_of_beq_eq_true q)
theorem z_abl_m {sc : mS} {st : List zV} {w : zX} {k : List zV → Prop} (h : z_abl st w k) : ∃ t, m_al .baload sc (st.map z_v) (z_w (z_x w)) = some (t.map z_v) ∧ k t := by
  unfold z_abl at h
  split at h
  · obtain ⟨h1, h⟩ := z_cond h
    obtain ⟨n, hN, h2, ⟨h3, h4⟩, h5⟩ := z_ar_s w.2.1 h
    obtain ⟨g1, g2⟩ := z_idx h3 h4 h2
    refine ⟨_, ?_, h5⟩
    simp only [List.map_cons, z_v, m_al, m_ab, if_pos (z_or2 h1)]
    rw [show m_N (z_w (z_x w)) _ = n from hN, if_neg g1, g2]
    rfl
  · exact h.elim
def z_ajl (st : List zV) (w : zX) (k : List zV → Prop) : Prop := match st with
  | .inl i :: .inr (.inl a) :: r => cond (Nat.beq (a % 32) 23) (z_ar w.1 a (fun n => (0 ≤ i ∧ i < (n : Int)) ∧ k (.inr (.inr (some (w.2.2.2 a i.toNat))) :: r))) False
  | _ => False
theorem z_ajl_m {sc : mS} {st : List zV} {w : zX} {k : List zV → Prop} (h : z_ajl st w k) : ∃ t, m_al .laload sc (st.map z_v) (z_w (z_x w)) = some (t.map z_v) ∧ k t := by
  unfold z_ajl at h
  split at h
  · obtain ⟨h1, h⟩ := z_cond h
    obtain ⟨n, hN, h2, ⟨h3, h4⟩, h5⟩ := z_ar_s w.2.1 h
    obtain ⟨g1, g2⟩ := z_idx h3 h4 h2
    refine ⟨_, ?_, h5⟩
    simp only [List.map_cons, z_v, m_al, m_aj, if_pos (Nat.eq_of_beq_eq_true h1)]
    rw [show m_N (z_w (z_x w)) _ = n from hN, if_neg g1, g2]
    rfl
  · exact h.elim
def z_aln (sc : mS) (st : List zV) (w : zX) (k : List zV → Prop) : Prop := match st with
  | .inr (.inl a) :: r => cond (Nat.ble 20 (a % 32) && Nat.blt (a % 32) 24) (match z_fN w.1 a with
    | some n => k (.inl (n : Int) :: r)
    | none => False) (cond (Nat.beq (a % 32) 24) (k (.inl (sc.1 : Int) :: r)) False)
  | _ => False
theorem z_aln_m {sc : mS} {st : List zV} {w : zX} {k : List zV → Prop} (h : z_aln sc st w k) : ∃ t, m_al .arraylength sc (st.map z_v) (z_w (z_x w)) = some (t.map z_v) ∧ k t := by
  unfold z_aln at h
  split at h
  · rename_i a r
    cases hb : (Nat.ble 20 (a % 32) && Nat.blt (a % 32) 24) with
    | true =>
      rw [hb] at h
      obtain ⟨b1, b2⟩ := Bool.and_eq_true_iff.mp hb
      dsimp only [cond_true] at h
      split at h
      · rename_i n hn
        refine ⟨_, ?_, h⟩
        have e : m_N (z_w (z_x w)) a = n := z_fN_s (s := w.2.1) hn
        simp only [List.map_cons, z_v, m_al, m_an, if_pos (⟨Nat.le_of_ble_eq_true b1, Nat.le_of_ble_eq_true b2⟩ : 20 ≤ a % 32 ∧ a % 32 < 24), Int32.ofInt_eq_ofNat, e, m_pu]
      · exact h.elim
    | false =>
      rw [hb] at h
      have h0 : ¬ (20 ≤ a % 32 ∧ a % 32 < 24) := fun q => by
        rw [Bool.and_eq_false_iff] at hb
        rcases hb with z | z
        · rw [Nat.ble_eq_true_of_le q.1] at z; cases z
        · rw [show Nat.blt (a % 32) 24 = true from Nat.ble_eq_true_of_le q.2] at z; cases z
      obtain ⟨h2, h5⟩ := z_cond h
      refine ⟨_, ?_, h5⟩
      simp only [List.map_cons, z_v, m_al, m_an, if_neg h0, if_pos (Nat.eq_of_beq_eq_true h2), Int32.ofInt_eq_ofNat, m_pu]
  · exact h.elim
def z_ais (st : List zV) (w : zX) (k : List zV → zX → Prop) : Prop := match st with
  | .inl x :: .inl i :: .inr (.inl a) :: r => cond (Nat.beq (a % 32) 20) (z_ar w.1 a (fun n => (0 ≤ i ∧ i < (n : Int)) ∧ k r (x_wI w a i.toNat x))) False
  | _ => False
theorem z_ais_m {st : List zV} {w : zX} {k : List zV → zX → Prop} (h : z_ais st w k) : ∃ t w', m_as .iastore (st.map z_v) (z_w (z_x w)) = some (t.map z_v, z_w (z_x w')) ∧ k t w' := by
  unfold z_ais at h
  split at h
  · obtain ⟨h1, h⟩ := z_cond h
    obtain ⟨n, hN, h2, ⟨h3, h4⟩, h5⟩ := z_ar_s w.2.1 h
    obtain ⟨g1, g2⟩ := z_idx h3 h4 h2
    refine ⟨_, _, ?_, h5⟩
    simp only [List.map_cons, z_v, m_as, m_xi, if_pos (Nat.eq_of_beq_eq_true h1)]
    rw [show m_N (z_w (z_x w)) _ = n from hN, if_neg g1, g2, x_wI_m, z_wI_m]
    rfl
  · exact h.elim
def z_abs (st : List zV) (w : zX) (k : List zV → zX → Prop) : Prop := match st with
  | .inl x :: .inl i :: .inr (.inl a) :: r => cond (Nat.beq (a % 32) 21) (z_ar w.1 a (fun n => (0 ≤ i ∧ i < (n : Int)) ∧ k r (x_wI w a i.toNat (znb x))))
    (cond (Nat.beq (a % 32) 22) (z_ar w.1 a (fun n => (0 ≤ i ∧ i < (n : Int)) ∧ k r (x_wI w a i.toNat (znz x)))) False)
  | _ => False
theorem z_abs_m {st : List zV} {w : zX} {k : List zV → zX → Prop} (h : z_abs st w k) : ∃ t w', m_as .bastore (st.map z_v) (z_w (z_x w)) = some (t.map z_v, z_w (z_x w')) ∧ k t w' := by
  unfold z_abs at h
  split at h
  · rename_i x i a r
    cases hb : Nat.beq (a % 32) 21 with
    | true =>
      rw [hb] at h
      obtain ⟨n, hN, h2, ⟨h3, h4⟩, h5⟩ := z_ar_s w.2.1 h
      obtain ⟨g1, g2⟩ := z_idx h3 h4 h2
      refine ⟨_, _, ?_, h5⟩
      simp only [List.map_cons, z_v, m_as, m_xb, if_pos (Nat.eq_of_beq_eq_true hb)]
      rw [show m_N (z_w (z_x w)) _ = n from hN, if_neg g1, g2, x_wI_m, z_wI_m, znb, Int32.ofInt_toInt]
      rfl
    | false =>
      rw [hb] at h
      have h0 : ¬ a % 32 = 21 := fun q => by rw [q] at hb; cases hb
      obtain ⟨h1, h⟩ := z_cond h
      obtain ⟨n, hN, h2, ⟨h3, h4⟩, h5⟩ := z_ar_s w.2.1 h
      obtain ⟨g1, g2⟩ := z_idx h3 h4 h2
      refine ⟨_, _, ?_, h5⟩
      simp only [List.map_cons, z_v, m_as, m_xb, if_neg h0, if_pos (Nat.eq_of_beq_eq_true h1)]
      rw [show m_N (z_w (z_x w)) _ = n from hN, if_neg g1, g2, x_wI_m, z_wI_m, znz, Int32.ofInt_toInt]
      rfl
  · exact h.elim
def z_ajs (st : List zV) (w : zX) (k : List zV → zX → Prop) : Prop := match st with
  | .inr (.inr (some x)) :: .inl i :: .inr (.inl a) :: r => cond (Nat.beq (a % 32) 23) (z_ar w.1 a (fun n => (0 ≤ i ∧ i < (n : Int)) ∧ k r (x_wJ w a i.toNat x))) False
  | _ => False
theorem z_ajs_m {st : List zV} {w : zX} {k : List zV → zX → Prop} (h : z_ajs st w k) : ∃ t w', m_as .lastore (st.map z_v) (z_w (z_x w)) = some (t.map z_v, z_w (z_x w')) ∧ k t w' := by
  unfold z_ajs at h
  split at h
  · obtain ⟨h1, h⟩ := z_cond h
    obtain ⟨n, hN, h2, ⟨h3, h4⟩, h5⟩ := z_ar_s w.2.1 h
    obtain ⟨g1, g2⟩ := z_idx h3 h4 h2
    refine ⟨_, _, ?_, h5⟩
    simp only [List.map_cons, z_v, m_as, m_xj, if_pos (Nat.eq_of_beq_eq_true h1)]
    rw [show m_N (z_w (z_x w)) _ = n from hN, if_neg g1, g2, x_wJ_m, z_wJ_m]
    rfl
  · exact h.elim
