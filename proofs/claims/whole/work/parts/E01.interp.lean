/-! ===== the constructors: a machine that runs on data alone ===== -/
def ct_lk (l : List (Nat × Nat × Int)) (a k : Nat) : Int := match l with
  | [] => 0
  | q :: r => if q.1 = a ∧ q.2.1 = k then q.2.2 else ct_lk r a k
def ct_I (F : Nat → Int) (l : List (Nat × Nat × Int)) : Nat → Nat → Int := fun a k => if a = 884 then F k else ct_lk l a k
def ct_J : Nat → Nat → Int := fun _ _ => 0
def ct_fr (l : List (Nat × Nat × Int)) (a : Nat) : Bool := l.all (fun q => !(Nat.beq q.1 a))
section
variable {F : Nat → Int} {l : List (Nat × Nat × Int)} {a k : Nat} {v : Int}
theorem ct_I_u (h : ¬ a = 884) : z_u (ct_I F l) a k v = ct_I F ((a, k, v) :: l) := by
  funext i j
  by_cases e : i = a
  · rw [e, zu_at]
    show (if j = k then v else (if a = 884 then F j else ct_lk l a j)) = (if a = 884 then F j else (if a = a ∧ k = j then v else ct_lk l a j))
    rw [if_neg h, if_neg h]
    by_cases c : j = k
    · rw [if_pos c, if_pos ⟨rfl, c.symm⟩]
    · rw [if_neg c, if_neg (fun z : a = a ∧ k = j => c z.2.symm)]
  · rw [zu_ne e]
    show (if i = 884 then F j else ct_lk l i j) = (if i = 884 then F j else (if a = i ∧ k = j then v else ct_lk l i j))
    rw [if_neg (fun z : a = i ∧ k = j => e z.1.symm)]
theorem ct_lk_fr : ∀ l : List (Nat × Nat × Int), ct_fr l a = true → ct_lk l a k = 0 := by
  intro l
  induction l with
  | nil => intro _; rfl
  | cons q r ih =>
    intro h
    have h' : (!(Nat.beq q.1 a) && ct_fr r a) = true := h
    obtain ⟨h1, h2⟩ := Bool.and_eq_true_iff.mp h'
    show (if q.1 = a ∧ q.2.1 = k then q.2.2 else ct_lk r a k) = 0
    rw [if_neg (fun z : q.1 = a ∧ q.2.1 = k => by rw [z.1, Nat.beq_refl] at h1; cases h1)]
    exact ih h2
theorem ct_I_r (h : ct_fr l a = true) (hF : a = 884 → F = fun _ => 0) : z_zr (ct_I F l) a = ct_I F l := by
  funext i j
  show (if i = a then 0 else ct_I F l i j) = ct_I F l i j
  by_cases e : i = a
  · rw [if_pos e, e]
    show 0 = (if a = 884 then F j else ct_lk l a j)
    by_cases c : a = 884
    · rw [if_pos c, hF c]
    · rw [if_neg c, ct_lk_fr l h]
  · rw [if_neg e]
theorem ct_J_r (a : Nat) : z_zr ct_J a = ct_J := by
  funext i j
  show (if i = a then 0 else (0 : Int)) = 0
  split <;> rfl
end
/-- cells, slots, what was written -/
abbrev ct_W : Type := zL × Nat × List (Nat × Nat × Int)
/-- place, locals, stack, world -/
abbrev ct_S : Type := Nat × List zV × List zV × ct_W
def ct_x (F : Nat → Int) (w : ct_W) : zX := (w.1, w.2.1, ct_I F w.2.2, ct_J)
def ct_gf (x : List Nat) (st : List zV) (w : ct_W) : Option (List zV) := match x, st with
  | ci :: fk :: tc :: _, .inr (.inl a) :: r => cond (Nat.beq (a % 32) (ci + 1) && !(Nat.beq a 884)) (match tc with
    | 0 => some (.inl (ct_lk w.2.2 a fk) :: r)
    | 1 => some (.inl (ct_lk w.2.2 a fk) :: r)
    | 2 => match z_fP w.1 a fk with
      | some q => some (.inr (.inl q) :: r)
      | none => none
    | _ => none) none
  | _, _ => none
def ct_pf (x : List Nat) (st : List zV) (w : ct_W) : Option (List zV × ct_W) := match x, st with
  | ci :: fk :: tc :: _, v :: .inr (.inl a) :: r => cond (Nat.beq (a % 32) (ci + 1) && !(Nat.beq a 884)) (match tc, v with
    | 0, .inl y => some (r, (w.1, w.2.1, (a, fk, y) :: w.2.2))
    | 1, .inl y => if y = 0 ∨ y = 1 then some (r, (w.1, w.2.1, (a, fk, y) :: w.2.2)) else none
    | 2, .inr (.inl q) => match z_fP w.1 a fk with
      | some _ => some (r, (z_sP w.1 a fk q, w.2.1, w.2.2))
      | none => none
    | _, _ => none) none
  | _, _ => none
def ct_ok (b : Bool) (l : List (Nat × Nat × Int)) (a : Nat) : Bool := ct_fr l a && (b || !(Nat.beq a 884))
def ct_nt (b : Bool) (x : List Nat) (st : List zV) (w : ct_W) : Option (List zV × ct_W) := match x with
  | 0 :: ci :: _ => cond (Nat.blt ci 11 && ct_ok b w.2.2 (32 * (w.1.length + 1) + (ci + 1))) (some (.inr (.inl (32 * (w.1.length + 1) + (ci + 1))) :: st, (z_nl w.1 (ci + 1) 0 (m_NF ci), w.2.1 + m_NF ci, w.2.2))) none
  | _ => none
def ct_na (b : Bool) (ty : ArrayType) (st : List zV) (w : ct_W) : Option (List zV × ct_W) := match st with
  | .inl n :: r => cond (Nat.beq (m_akd ty) 0) none (if (0 ≤ n ∧ n < 60000) ∧ ct_ok b w.2.2 (32 * (w.1.length + 1) + m_akd ty) = true then some (.inr (.inl (32 * (w.1.length + 1) + m_akd ty)) :: r, (z_nl w.1 (m_akd ty) n.toNat 0, w.2.1 + n.toNat, w.2.2)) else none)
  | _ => none
def ct_as (st : List zV) (w : ct_W) : Option (List zV × ct_W) := match st with
  | .inl x :: .inl i :: .inr (.inl a) :: r => cond (Nat.beq (a % 32) 20 && !(Nat.beq a 884)) (match z_fN w.1 a with
    | some n => if Nat.ble n 60000 = true ∧ (0 ≤ i ∧ i < (n : Int)) then some (r, (w.1, w.2.1, (a, i.toNat, x) :: w.2.2)) else none
    | none => none) none
  | _ => none
def ct_an (st : List zV) (w : ct_W) : Option (List zV) := match st with
  | .inr (.inl a) :: r => cond (Nat.ble 20 (a % 32) && Nat.blt (a % 32) 24) (match z_fN w.1 a with
    | some n => some (.inl (n : Int) :: r)
    | none => none) none
  | _ => none
def ct_ld (x : List Nat) (st : List zV) : Option (List zV) := match x with
  | 0 :: n :: _ => some (.inl (z_i32 n) :: st)
  | _ => none
def ct_ob (x : List Nat) (st : List zV) : Option (List zV) := match x, st with
  | [], .inr (.inl a) :: r => cond (Nat.beq a 0) none (cond (Nat.ble (r.map z_cat).sum 8) (some r) none)
  | _, _ => none
def ct_if (cd : ClassFile.Cond) (x : Int) : Bool := match cd with
  | .eq => decide (x = 0)
  | .ne => decide (¬ x = 0)
  | .lt => decide (x < 0)
  | .ge => decide (¬ x < 0)
  | .gt => decide (0 < x)
  | .le => decide (¬ 0 < x)
def ct_ic (cd : ClassFile.Cond) (x y : Int) : Bool := match cd with
  | .eq => decide (x = y)
  | .ne => decide (¬ x = y)
  | .lt => decide (x < y)
  | .ge => decide (¬ x < y)
  | .gt => decide (y < x)
  | .le => decide (¬ y < x)
def ct_br (ins : Instr) (pc : Nat) (st : List zV) : Option (Nat × List zV) := match ins with
  | .goto off => match m_tg pc off with
    | some t => some (t, st)
    | none => none
  | .ifCond cd off => match m_tg pc off, st with
    | some t, .inl x :: r => if -2147483648 ≤ x ∧ x < 2147483648 then some (cond (ct_if cd x) t (pc + 3), r) else none
    | _, _ => none
  | .if_icmp cd off => match m_tg pc off, st with
    | some t, .inl y :: .inl x :: r => if (-2147483648 ≤ x ∧ x < 2147483648) ∧ (-2147483648 ≤ y ∧ y < 2147483648) then some (cond (ct_ic cd x y) t (pc + 3), r) else none
    | _, _ => none
  | _ => none
def ct_sm (ins : Instr) (pc : Nat) (ls st : List zV) : Option (Nat × List zV × List zV) := match z_op0 ins st with
  | some t => some (pc + m_len ins, ls, t)
  | none => match z_op1 false ins st with
    | some _ => none
    | none => match z_lo ins ls st with
      | some q => some (pc + m_len ins, q.1, q.2)
      | none => match ct_br ins pc st with
        | some q => some (q.1, ls, q.2)
        | none => none
section
variable {F : Nat → Int} {x : List Nat} {st : List zV} {w : ct_W}
theorem ct_gf_s {t : List zV} {k : List zV → Prop} (h : ct_gf x st w = some t) (hk : k t) : z_gf x st (ct_x F w) k := by
  unfold ct_gf at h
  split at h
  · rename_i ci fk tc y a r
    cases hb : (Nat.beq (a % 32) (ci + 1) && !(Nat.beq a 884)) with
    | false => rw [hb] at h; cases h
    | true =>
      rw [hb, cond_true] at h
      obtain ⟨b1, b2⟩ := Bool.and_eq_true_iff.mp hb
      have h8 : ¬ a = 884 := fun z => by rw [z] at b2; cases b2
      have eI : (ct_x F w).2.2.1 a fk = ct_lk w.2.2 a fk := by
        show (if a = 884 then F fk else ct_lk w.2.2 a fk) = _
        rw [if_neg h8]
      unfold z_gf
      try dsimp only
      rw [b1, cond_true]
      split at h
      · cases h
        show k (.inl ((ct_x F w).2.2.1 a fk) :: r)
        rw [eI]
        exact hk
      · cases h
        show k (.inl ((ct_x F w).2.2.1 a fk) :: r)
        rw [eI]
        exact hk
      · split at h
        · rename_i q hq
          cases h
          have hq' : z_fP (ct_x F w).1 a fk = some q := hq
          try dsimp only
          rw [hq']
          exact hk
        · cases h
      · cases h
  · cases h
theorem ct_pf_s {t : List zV × ct_W} {k : List zV → zX → Prop} (h : ct_pf x st w = some t) (hk : k t.1 (ct_x F t.2)) : z_pf x st (ct_x F w) k := by
  unfold ct_pf at h
  split at h
  · rename_i ci fk tc y v a r
    cases hb : (Nat.beq (a % 32) (ci + 1) && !(Nat.beq a 884)) with
    | false => rw [hb] at h; cases h
    | true =>
      rw [hb, cond_true] at h
      obtain ⟨b1, b2⟩ := Bool.and_eq_true_iff.mp hb
      have h8 : ¬ a = 884 := fun z => by rw [z] at b2; cases b2
      have eI : ∀ v : Int, x_wI (ct_x F w) a fk v = ct_x F (w.1, w.2.1, (a, fk, v) :: w.2.2) := fun v => by
        show (w.1, w.2.1, z_u (ct_I F w.2.2) a fk v, ct_J) = (w.1, w.2.1, ct_I F ((a, fk, v) :: w.2.2), ct_J)
        rw [ct_I_u h8]
      unfold z_pf
      try dsimp only
      rw [b1, cond_true]
      split at h
      · rename_i yv
        cases h
        show k r (x_wI (ct_x F w) a fk yv)
        rw [eI]
        exact hk
      · split at h
        · rename_i yv hy
          cases h
          show (yv = 0 ∨ yv = 1) ∧ k r (x_wI (ct_x F w) a fk yv)
          rw [eI]
          exact ⟨hy, hk⟩
        · cases h
      · split at h
        · rename_i q0 hq
          cases h
          have hq' : z_fP (ct_x F w).1 a fk = some q0 := hq
          try dsimp only
          rw [hq']
          exact hk
        · cases h
      · cases h
  · cases h
theorem ct_mk_s {b : Bool} {kd ln sl nf : Nat} (hF : b = true → F = fun _ => 0) (h : ct_ok b w.2.2 (32 * (w.1.length + 1) + kd) = true) : x_mk (ct_x F w) kd ln sl nf = ct_x F (z_nl w.1 kd ln nf, w.2.1 + sl, w.2.2) := by
  obtain ⟨h1, h2⟩ := Bool.and_eq_true_iff.mp h
  show (z_nl w.1 kd ln nf, w.2.1 + sl, z_zr (ct_I F w.2.2) (32 * (w.1.length + 1) + kd), z_zr ct_J (32 * (w.1.length + 1) + kd)) = (z_nl w.1 kd ln nf, w.2.1 + sl, ct_I F w.2.2, ct_J)
  rw [ct_J_r, ct_I_r h1 (fun z => by
    rw [z] at h2
    cases b with
    | true => exact hF rfl
    | false => cases h2)]
theorem ct_nt_s {b : Bool} {t : List zV × ct_W} {k : List zV → zX → Prop} {Q : zR → zW → Prop} (hF : b = true → F = fun _ => 0) (h : ct_nt b x st w = some t) (hk : k t.1 (ct_x F t.2)) : z_nt x st (ct_x F w) k Q := by
  unfold ct_nt at h
  split at h
  · rename_i ci y
    cases hb : (Nat.blt ci 11 && ct_ok b w.2.2 (32 * (w.1.length + 1) + (ci + 1))) with
    | false => rw [hb] at h; cases h
    | true =>
      rw [hb, cond_true] at h
      obtain ⟨b1, b2⟩ := Bool.and_eq_true_iff.mp hb
      cases h
      show cond (Nat.blt ci 11) (k (.inr (.inl (32 * (w.1.length + 1) + (ci + 1))) :: st) (x_mk (ct_x F w) (ci + 1) 0 (m_NF ci) (m_NF ci))) False
      rw [b1, cond_true, ct_mk_s hF b2]
      exact hk
  · cases h
theorem ct_na_s {b : Bool} {ty : ArrayType} {t : List zV × ct_W} {k : List zV → zX → Prop} (hF : b = true → F = fun _ => 0) (h : ct_na b ty st w = some t) (hk : k t.1 (ct_x F t.2)) : z_na ty st (ct_x F w) k := by
  unfold ct_na at h
  split at h
  · rename_i n r
    cases hb : Nat.beq (m_akd ty) 0 with
    | true => rw [hb] at h; cases h
    | false =>
      rw [hb, cond_false] at h
      split at h
      · rename_i c
        cases h
        unfold z_na
        try dsimp only
        rw [hb, cond_false, ct_mk_s hF c.2]
        exact ⟨c.1, hk⟩
      · cases h
  · cases h
theorem ct_as_s {t : List zV × ct_W} {k : List zV → zX → Prop} (h : ct_as st w = some t) (hk : k t.1 (ct_x F t.2)) : z_ais st (ct_x F w) k := by
  unfold ct_as at h
  split at h
  · rename_i v i a r
    cases hb : (Nat.beq (a % 32) 20 && !(Nat.beq a 884)) with
    | false => rw [hb] at h; cases h
    | true =>
      rw [hb, cond_true] at h
      obtain ⟨b1, b2⟩ := Bool.and_eq_true_iff.mp hb
      have h8 : ¬ a = 884 := fun z => by rw [z] at b2; cases b2
      have eI : x_wI (ct_x F w) a i.toNat v = ct_x F (w.1, w.2.1, (a, i.toNat, v) :: w.2.2) := by
        show (w.1, w.2.1, z_u (ct_I F w.2.2) a i.toNat v, ct_J) = (w.1, w.2.1, ct_I F ((a, i.toNat, v) :: w.2.2), ct_J)
        rw [ct_I_u h8]
      split at h
      · rename_i n hn
        split at h
        · rename_i c
          cases h
          have hn' : z_fN (ct_x F w).1 a = some n := hn
          unfold z_ais
          try dsimp only
          rw [b1, cond_true]
          unfold z_ar
          rw [hn']
          try dsimp only
          rw [c.1, cond_true, eI]
          exact ⟨c.2, hk⟩
        · cases h
      · cases h
  · cases h
theorem ct_an_s {sc : mS} {t : List zV} {k : List zV → Prop} (h : ct_an st w = some t) (hk : k t) : z_aln sc st (ct_x F w) k := by
  unfold ct_an at h
  split at h
  · rename_i a r
    cases hb : (Nat.ble 20 (a % 32) && Nat.blt (a % 32) 24) with
    | false => rw [hb] at h; cases h
    | true =>
      rw [hb, cond_true] at h
      split at h
      · rename_i n hn
        cases h
        have hn' : z_fN (ct_x F w).1 a = some n := hn
        unfold z_aln
        try dsimp only
        rw [hb, cond_true, hn']
        exact hk
      · cases h
  · cases h
theorem ct_ld_s {t : List zV} {k : List zV → Prop} (h : ct_ld x st = some t) (hk : k t) : z_ldk x st k := by
  unfold ct_ld at h
  split at h
  · cases h
    exact hk
  · cases h
theorem ct_ob_s {t : List zV} {k : List zV → Prop} (h : ct_ob x st = some t) (hk : k t) : x = [] ∧ z_obj st k := by
  unfold ct_ob at h
  split at h
  · rename_i a r
    refine ⟨rfl, ?_⟩
    cases hb : Nat.beq a 0 with
    | true => rw [hb] at h; cases h
    | false =>
      rw [hb, cond_false] at h
      cases hc : Nat.ble (r.map z_cat).sum 8 with
      | false => rw [hc] at h; cases h
      | true =>
        rw [hc, cond_true] at h
        cases h
        unfold z_obj
        try dsimp only
        rw [hb, hc]
        exact hk
  · cases h
theorem ct_if_s {cd : ClassFile.Cond} {x : Int} {A B : Prop} (hx : inR x) (hA : ct_if cd x = true → A) (hB : ct_if cd x = false → B) : z_if false cd x A B := by
  refine ⟨hx, ?_⟩
  cases cd with
  | eq => exact ⟨fun c => hA (decide_eq_true c), fun c => hB (decide_eq_false c)⟩
  | ne => exact ⟨fun c => hB (decide_eq_false (fun z => z c)), fun c => hA (decide_eq_true c)⟩
  | lt => exact ⟨fun c => hA (decide_eq_true c), fun c => hB (decide_eq_false c)⟩
  | ge => exact ⟨fun c => hB (decide_eq_false (fun z => z c)), fun c => hA (decide_eq_true c)⟩
  | gt => exact ⟨fun c => hA (decide_eq_true c), fun c => hB (decide_eq_false c)⟩
  | le => exact ⟨fun c => hB (decide_eq_false (fun z => z c)), fun c => hA (decide_eq_true c)⟩
theorem ct_ic_s {cd : ClassFile.Cond} {x y : Int} {A B : Prop} (hx : inR x) (hy : inR y) (hA : ct_ic cd x y = true → A) (hB : ct_ic cd x y = false → B) : z_ic false cd x y A B := by
  refine ⟨hx, hy, ?_⟩
  cases cd with
  | eq => exact ⟨fun c => hA (decide_eq_true c), fun c => hB (decide_eq_false c)⟩
  | ne => exact ⟨fun c => hB (decide_eq_false (fun z => z c)), fun c => hA (decide_eq_true c)⟩
  | lt => exact ⟨fun c => hA (decide_eq_true c), fun c => hB (decide_eq_false c)⟩
  | ge => exact ⟨fun c => hB (decide_eq_false (fun z => z c)), fun c => hA (decide_eq_true c)⟩
  | gt => exact ⟨fun c => hA (decide_eq_true c), fun c => hB (decide_eq_false c)⟩
  | le => exact ⟨fun c => hB (decide_eq_false (fun z => z c)), fun c => hA (decide_eq_true c)⟩
theorem ct_br_s {ins : Instr} {pc : Nat} {q : Nat × List zV} {k : Nat → List zV → Prop} (h : ct_br ins pc st = some q) (hk : k q.1 q.2) : z_br false ins pc st k := by
  unfold ct_br at h
  split at h
  · rename_i off
    cases ht : m_tg pc off with
    | none => rw [ht] at h; cases h
    | some t =>
      rw [ht] at h
      cases h
      simp only [z_br, ht]
      exact hk
  · rename_i cd off
    cases ht : m_tg pc off with
    | none => rw [ht] at h; cases h
    | some t =>
      rw [ht] at h
      match st, h with
      | .inl x :: r, h =>
        have h : (if -2147483648 ≤ x ∧ x < 2147483648 then some (cond (ct_if cd x) t (pc + 3), r) else none) = some q := h
        by_cases c : -2147483648 ≤ x ∧ x < 2147483648
        · rw [if_pos c] at h
          cases h
          simp only [z_br, ht]
          exact ct_if_s c (fun e => by rw [e] at hk; exact hk) (fun e => by rw [e] at hk; exact hk)
        · rw [if_neg c] at h; cases h
      | [], h => cases h
      | .inr _ :: _, h => cases h
  · rename_i cd off
    cases ht : m_tg pc off with
    | none => rw [ht] at h; cases h
    | some t =>
      rw [ht] at h
      match st, h with
      | .inl y :: .inl x :: r, h =>
        have h : (if (-2147483648 ≤ x ∧ x < 2147483648) ∧ (-2147483648 ≤ y ∧ y < 2147483648) then some (cond (ct_ic cd x y) t (pc + 3), r) else none) = some q := h
        by_cases c : (-2147483648 ≤ x ∧ x < 2147483648) ∧ (-2147483648 ≤ y ∧ y < 2147483648)
        · rw [if_pos c] at h
          cases h
          simp only [z_br, ht]
          exact ct_ic_s c.1 c.2 (fun e => by rw [e] at hk; exact hk) (fun e => by rw [e] at hk; exact hk)
        · rw [if_neg c] at h; cases h
      | [], h => cases h
      | .inr _ :: _, h => cases h
      | [.inl _], h => cases h
      | .inl _ :: .inr _ :: _, h => cases h
  · cases h
theorem ct_sm_s {ins : Instr} {pc : Nat} {ls : List zV} {q : Nat × List zV × List zV} {k : Nat → List zV → List zV → Prop} (h : ct_sm ins pc ls st = some q) (hk : k q.1 q.2.1 q.2.2) : z_simple false ins pc ls st k := by
  unfold ct_sm at h
  unfold z_simple
  cases h0 : z_op0 ins st with
  | some t =>
    rw [h0] at h
    cases h
    exact hk
  | none =>
    rw [h0] at h
    cases h1 : z_op1 false ins st with
    | some c => rw [h1] at h; cases h
    | none =>
      rw [h1] at h
      cases h2 : z_lo ins ls st with
      | some p =>
        rw [h2] at h
        obtain ⟨ls', t⟩ := p
        cases h
        exact hk
      | none =>
        rw [h2] at h
        cases h3 : ct_br ins pc st with
        | some p =>
          rw [h3] at h
          cases h
          exact ct_br_s h3 hk
        | none => rw [h3] at h; cases h
end
def ct_1 (b : Bool) (M : mM) (q : ct_S) : Option ct_S := match m_Mc M q.1 with
  | none => none
  | some (ins, _, x) => match ins with
    | .getfield _ => match ct_gf x q.2.2.1 q.2.2.2 with
      | some t => some (q.1 + 3, q.2.1, t, q.2.2.2)
      | none => none
    | .putfield _ => match ct_pf x q.2.2.1 q.2.2.2 with
      | some t => some (q.1 + 3, q.2.1, t.1, t.2)
      | none => none
    | .new _ => match ct_nt b x q.2.2.1 q.2.2.2 with
      | some t => some (q.1 + 3, q.2.1, t.1, t.2)
      | none => none
    | .newarray ty => match ct_na b ty q.2.2.1 q.2.2.2 with
      | some t => some (q.1 + 2, q.2.1, t.1, t.2)
      | none => none
    | .iastore => match ct_as q.2.2.1 q.2.2.2 with
      | some t => some (q.1 + 1, q.2.1, t.1, t.2)
      | none => none
    | .arraylength => match ct_an q.2.2.1 q.2.2.2 with
      | some t => some (q.1 + 1, q.2.1, t, q.2.2.2)
      | none => none
    | .ldc _ => match ct_ld x q.2.2.1 with
      | some t => some (q.1 + 2, q.2.1, t, q.2.2.2)
      | none => none
    | .invokespecial _ => match ct_ob x q.2.2.1 with
      | some t => some (q.1 + 3, q.2.1, t, q.2.2.2)
      | none => none
    | ins => match ct_sm ins q.1 q.2.1 q.2.2.1 with
      | some t => some (t.1, t.2.1, t.2.2, q.2.2.2)
      | none => none
section
variable {b : Bool} {M : mM} {sc : mS} {d : Nat} {Q : zR → zW → Prop} {F : Nat → Int}
theorem ct_1_s {q q' : ct_S} (hF : b = true → F = fun _ => 0) (h : ct_1 b M q = some q') (k : Go sc d M q'.1 q'.2.1 q'.2.2.1 (z_x (ct_x F q'.2.2.2)) Q) : Go sc d M q.1 q.2.1 q.2.2.1 (z_x (ct_x F q.2.2.2)) Q := by
  obtain ⟨pc, ls, st, w⟩ := q
  refine z_one_m (f := false) (k := fun pc' ls' st' w' => Go sc d M pc' ls' st' (z_x w') Q) (fun _ _ _ _ h => h) ?_
  unfold ct_1 at h
  unfold z_one
  dsimp only at h ⊢
  cases hc : m_Mc M pc with
  | none => rw [hc] at h; cases h
  | some r =>
    obtain ⟨ins, len, x⟩ := r
    rw [hc] at h
    dsimp only at h ⊢
    split at h
    · split at h
      · rename_i t ht
        cases h
        exact ct_gf_s ht k
      · cases h
    · split at h
      · rename_i t ht
        cases h
        exact ct_pf_s (k := fun t w' => Go sc d M (pc + 3) ls t (z_x w') Q) ht k
      · cases h
    · split at h
      · rename_i t ht
        cases h
        exact ct_nt_s (k := fun t w' => Go sc d M (pc + 3) ls t (z_x w') Q) hF ht k
      · cases h
    · split at h
      · rename_i t ht
        cases h
        exact ct_na_s (k := fun t w' => Go sc d M (pc + 2) ls t (z_x w') Q) hF ht k
      · cases h
    · split at h
      · rename_i t ht
        cases h
        exact ct_as_s (k := fun t w' => Go sc d M (pc + 1) ls t (z_x w') Q) ht k
      · cases h
    · split at h
      · rename_i t ht
        cases h
        exact ct_an_s (k := fun t => Go sc d M (pc + 1) ls t (z_x (ct_x F w)) Q) ht k
      · cases h
    · split at h
      · rename_i t ht
        cases h
        exact ct_ld_s (k := fun t => Go sc d M (pc + 2) ls t (z_x (ct_x F w)) Q) ht k
      · cases h
    · split at h
      · rename_i t ht
        cases h
        obtain ⟨rfl, g⟩ := ct_ob_s (k := fun t => Go sc d M (pc + 3) ls t (z_x (ct_x F w)) Q) ht k
        exact g
      · cases h
    · split at h
      · rename_i t ht
        cases h
        have g := ct_sm_s (k := fun pc' ls' t => Go sc d M pc' ls' t (z_x (ct_x F w)) Q) ht k
        clear k
        cases ins <;> first | exact g | cases ht
      · cases h
def ct_run (b : Bool) (M : mM) (stops : List Nat) : Nat → ct_S → Option ct_S
  | 0, q => some q
  | f + 1, q => match ct_1 b M q with
    | none => none
    | some q' => cond (stops.any (Nat.beq q'.1)) (some q') (ct_run b M stops f q')
theorem ct_go {stops : List Nat} (hF : b = true → F = fun _ => 0) : ∀ (f : Nat) (q q' : ct_S), ct_run b M stops f q = some q' → Go sc d M q'.1 q'.2.1 q'.2.2.1 (z_x (ct_x F q'.2.2.2)) Q → Go sc d M q.1 q.2.1 q.2.2.1 (z_x (ct_x F q.2.2.2)) Q := by
  intro f
  induction f with
  | zero => intro q q' h k; cases h; exact k
  | succ f ih =>
    intro q q' h k
    unfold ct_run at h
    cases h1 : ct_1 b M q with
    | none => rw [h1] at h; cases h
    | some q1 =>
      rw [h1] at h
      dsimp only at h
      refine ct_1_s hF h1 ?_
      cases hb : stops.any (Nat.beq q1.1) with
      | true => rw [hb] at h; cases h; exact k
      | false => rw [hb] at h; exact ih q1 q' h k
end
/-! what the data are, tested -/
def ct_leq {α : Type} (f : α → α → Bool) : List α → List α → Bool
  | [], [] => true
  | a :: r, b :: s => f a b && ct_leq f r s
  | _, _ => false
theorem ct_leq_s {α : Type} {f : α → α → Bool} (hf : ∀ a b, f a b = true → a = b) : ∀ l m : List α, ct_leq f l m = true → l = m := by
  intro l
  induction l with
  | nil =>
    intro m h
    cases m with
    | nil => rfl
    | cons b s => cases h
  | cons a r ih =>
    intro m h
    cases m with
    | nil => cases h
    | cons b s =>
      have h' : (f a b && ct_leq f r s) = true := h
      obtain ⟨h1, h2⟩ := Bool.and_eq_true_iff.mp h'
      rw [hf a b h1, ih s h2]
def ct_ve (a b : zV) : Bool := match a, b with
  | .inl x, .inl y => decide (x = y)
  | .inr (.inl x), .inr (.inl y) => Nat.beq x y
  | .inr (.inr none), .inr (.inr none) => true
  | .inr (.inr (some x)), .inr (.inr (some y)) => decide (x = y)
  | _, _ => false
theorem ct_ve_s (a b : zV) (h : ct_ve a b = true) : a = b := by
  unfold ct_ve at h
  split at h
  · rw [of_decide_eq_true h]
  · rw [Nat.eq_of_beq_eq_true h]
  · rfl
  · rw [of_decide_eq_true h]
  · cases h
def ct_ce (a b : Nat × Nat × List Nat) : Bool := Nat.beq a.1 b.1 && (Nat.beq a.2.1 b.2.1 && ct_leq Nat.beq a.2.2 b.2.2)
theorem ct_ce_s (a b : Nat × Nat × List Nat) (h : ct_ce a b = true) : a = b := by
  obtain ⟨h1, h2⟩ := Bool.and_eq_true_iff.mp h
  obtain ⟨h2, h3⟩ := Bool.and_eq_true_iff.mp h2
  obtain ⟨a1, a2, a3⟩ := a
  obtain ⟨b1, b2, b3⟩ := b
  have e1 : a1 = b1 := Nat.eq_of_beq_eq_true h1
  have e2 : a2 = b2 := Nat.eq_of_beq_eq_true h2
  have e3 : a3 = b3 := ct_leq_s (fun _ _ => Nat.eq_of_beq_eq_true) _ _ h3
  rw [e1, e2, e3]
def ct_me (a b : Nat × Nat × Int) : Bool := Nat.beq a.1 b.1 && (Nat.beq a.2.1 b.2.1 && decide (a.2.2 = b.2.2))
theorem ct_me_s (a b : Nat × Nat × Int) (h : ct_me a b = true) : a = b := by
  obtain ⟨h1, h2⟩ := Bool.and_eq_true_iff.mp h
  obtain ⟨h2, h3⟩ := Bool.and_eq_true_iff.mp h2
  obtain ⟨a1, a2, a3⟩ := a
  obtain ⟨b1, b2, b3⟩ := b
  have e1 : a1 = b1 := Nat.eq_of_beq_eq_true h1
  have e2 : a2 = b2 := Nat.eq_of_beq_eq_true h2
  have e3 : a3 = b3 := of_decide_eq_true h3
  rw [e1, e2, e3]
def ct_qe (a b : ct_S) : Bool := Nat.beq a.1 b.1 && (ct_leq ct_ve a.2.1 b.2.1 && (ct_leq ct_ve a.2.2.1 b.2.2.1 && (ct_leq ct_ce a.2.2.2.1 b.2.2.2.1 && (Nat.beq a.2.2.2.2.1 b.2.2.2.2.1 && ct_leq ct_me a.2.2.2.2.2 b.2.2.2.2.2))))
theorem ct_qe_s (a b : ct_S) (h : ct_qe a b = true) : a = b := by
  obtain ⟨h1, h⟩ := Bool.and_eq_true_iff.mp h
  obtain ⟨h2, h⟩ := Bool.and_eq_true_iff.mp h
  obtain ⟨h3, h⟩ := Bool.and_eq_true_iff.mp h
  obtain ⟨h4, h⟩ := Bool.and_eq_true_iff.mp h
  obtain ⟨h5, h6⟩ := Bool.and_eq_true_iff.mp h
  obtain ⟨a1, a2, a3, a4, a5, a6⟩ := a
  obtain ⟨b1, b2, b3, b4, b5, b6⟩ := b
  have e1 : a1 = b1 := Nat.eq_of_beq_eq_true h1
  have e2 : a2 = b2 := ct_leq_s ct_ve_s _ _ h2
  have e3 : a3 = b3 := ct_leq_s ct_ve_s _ _ h3
  have e4 : a4 = b4 := ct_leq_s ct_ce_s _ _ h4
  have e5 : a5 = b5 := Nat.eq_of_beq_eq_true h5
  have e6 : a6 = b6 := ct_leq_s ct_me_s _ _ h6
  rw [e1, e2, e3, e4, e5, e6]
def ct_ck (b : Bool) (M : mM) (stops : List Nat) (f : Nat) (q q' : ct_S) : Bool := match ct_run b M stops f q with
  | some r => ct_qe r q'
  | none => false
theorem ct_go2 {b : Bool} {M : mM} {sc : mS} {d : Nat} {Q : zR → zW → Prop} {F : Nat → Int} {stops : List Nat} (hF : b = true → F = fun _ => 0) (f : Nat) (q q' : ct_S) (h : ct_ck b M stops f q q' = true) (k : Go sc d M q'.1 q'.2.1 q'.2.2.1 (z_x (ct_x F q'.2.2.2)) Q) : Go sc d M q.1 q.2.1 q.2.2.1 (z_x (ct_x F q.2.2.2)) Q := by
  unfold ct_ck at h
  split at h
  · rename_i r hr
    exact ct_go hF f q q' (by rw [hr, ct_qe_s _ _ h]) k
  · cases h
