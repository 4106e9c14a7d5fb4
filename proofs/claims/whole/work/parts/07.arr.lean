/-! arrays of the small machine; sc: the script's length and ints -/
abbrev mS : Type := Nat × (Nat → Int32)
def m_ai (sc : mS) (w : mW) (a : Nat) (i : Int32) : Option Value :=
  if a % 32 = 20 then (if i < 0 ∨ m_N w a ≤ i.toNatClampNeg then none else some (.int (m_I w a i.toNatClampNeg)))
  else if a % 32 = 24 then (if i < 0 ∨ sc.1 ≤ i.toNatClampNeg then none else some (.int (sc.2 i.toNatClampNeg))) else none
def m_ab (w : mW) (a : Nat) (i : Int32) : Option Value :=
  if a % 32 = 21 ∨ a % 32 = 22 then (if i < 0 ∨ m_N w a ≤ i.toNatClampNeg then none else some (.int (m_I w a i.toNatClampNeg))) else none
def m_aj (w : mW) (a : Nat) (i : Int32) : Option Value :=
  if a % 32 = 23 then (if i < 0 ∨ m_N w a ≤ i.toNatClampNeg then none else some (.long (m_J w a i.toNatClampNeg))) else none
def m_an (sc : mS) (w : mW) (a : Nat) : Option Value :=
  if 20 ≤ a % 32 ∧ a % 32 < 24 then some (.int (Int32.ofNat (m_N w a))) else if a % 32 = 24 then some (.int (Int32.ofNat sc.1)) else none
def m_pu (v : Option Value) (r : List Value) : Option (List Value) := match v with
  | some x => some (x :: r)
  | none => none
theorem m_pu_s {v : Option Value} {r t : List Value} (h : m_pu v r = some t) : ∃ x, v = some x ∧ t = x :: r := by
  cases v with
  | none => cases h
  | some x => cases h; exact ⟨x, rfl, rfl⟩
def m_al (ins : Instr) (sc : mS) (st : List Value) (w : mW) : Option (List Value) := match ins with
  | .iaload => match st with
    | .int i :: .ref a :: r => m_pu (m_ai sc w a i) r
    | _ => none
  | .baload => match st with
    | .int i :: .ref a :: r => m_pu (m_ab w a i) r
    | _ => none
  | .laload => match st with
    | .int i :: .ref a :: r => m_pu (m_aj w a i) r
    | _ => none
  | .arraylength => match st with
    | .ref a :: r => m_pu (m_an sc w a) r
    | _ => none
  | _ => none
def m_xi (w : mW) (a : Nat) (i x : Int32) : Option mW :=
  if a % 32 = 20 then (if i < 0 ∨ m_N w a ≤ i.toNatClampNeg then none else some (m_wI w a i.toNatClampNeg x)) else none
def m_xb (w : mW) (a : Nat) (i x : Int32) : Option mW :=
  if a % 32 = 21 then (if i < 0 ∨ m_N w a ≤ i.toNatClampNeg then none else some (m_wI w a i.toNatClampNeg (vp_nar .byte x)))
  else if a % 32 = 22 then (if i < 0 ∨ m_N w a ≤ i.toNatClampNeg then none else some (m_wI w a i.toNatClampNeg (vp_nar .boolean x))) else none
def m_xj (w : mW) (a : Nat) (i : Int32) (x : Int64) : Option mW :=
  if a % 32 = 23 then (if i < 0 ∨ m_N w a ≤ i.toNatClampNeg then none else some (m_wJ w a i.toNatClampNeg x)) else none
def m_pw (v : Option mW) (r : List Value) : Option (List Value × mW) := match v with
  | some x => some (r, x)
  | none => none
theorem m_pw_s {v : Option mW} {r t : List Value} {w' : mW} (h : m_pw v r = some (t, w')) : v = some w' ∧ t = r := by
  cases v with
  | none => cases h
  | some x => cases h; exact ⟨rfl, rfl⟩
def m_as (ins : Instr) (st : List Value) (w : mW) : Option (List Value × mW) := match ins with
  | .iastore => match st with
    | .int x :: .int i :: .ref a :: r => m_pw (m_xi w a i x) r
    | _ => none
  | .bastore => match st with
    | .int x :: .int i :: .ref a :: r => m_pw (m_xb w a i x) r
    | _ => none
  | .lastore => match st with
    | .long x :: .int i :: .ref a :: r => m_pw (m_xj w a i x) r
    | _ => none
  | _ => none
/-- a new cell of kind kd, length ln, sl slots -/
def m_mk (w : mW) (kd ln sl : Nat) : mW := (w.1 + 1, w.2.1 + sl, (fun k => if k = w.1 then kd else w.2.2.1 k), (fun i => if i = 32 * (w.1 + 1) + kd then ln else w.2.2.2.1 i),
  (fun i j => if i = 32 * (w.1 + 1) + kd then 0 else w.2.2.2.2.1 i j), (fun i j => if i = 32 * (w.1 + 1) + kd then 0 else w.2.2.2.2.2.1 i j), (fun i j => if i = 32 * (w.1 + 1) + kd then 0 else w.2.2.2.2.2.2 i j))
def m_akd (ty : ArrayType) : Nat := match ty with
  | .int => 20
  | .byte => 21
  | .boolean => 22
  | .long => 23
  | _ => 0
def m_na (ty : ArrayType) (st : List Value) (w : mW) : Option (List Value × mW) := match st with
  | .int n :: r => if n < 0 ∨ 60000 ≤ n.toNatClampNeg ∨ m_akd ty = 0 then none else some (.ref (32 * (m_n w + 1) + m_akd ty) :: r, m_mk w (m_akd ty) n.toNatClampNeg n.toNatClampNeg)
  | _ => none
theorem m_ad_sc {b : Nat} {ex : Nat → Nat} {a : Nat} (h : a % 32 = 24) : m_ad b ex a = ex a := by
  unfold m_ad
  rw [if_pos (Or.inl h)]
section MAR
variable {p : Program} {l : Launch} {e : Env} {R : Room} {s : State} {m : MethodId} {args : Array Value} {below : List Frame} {meth : Method} {c : Code} {H : Heap} {locs : List Loc} {cells slots : Nat} {Q : State → Prop} {cc : ByteArray} {pc : Nat} {ls : Array Slot}
variable {b : Nat} {ex : Nat → Nat} {D : va_G} {cA : Nat → Nat} {w w' : mW} {A : Nat → Prop} {H0 : Heap} {sc : mS}
/-- the script stands where it stood -/
def m_SC (ex : Nat → Nat) (sc : mS) (A : Nat → Prop) (s : State) (H0 : Heap) : Prop := ∀ a, a % 32 = 24 → va_X (ex a) sc.1 sc.2 s H0 ∧ ex a < H0.size ∧ ¬ A (ex a)
set_option maxHeartbeats 1000000 in
theorem m_al_W (hx : p.tables.exec = Jvm.exec) (hb : c.code = cc) (hK : va_K D vwCl (m_ta cA) s) (hH : m_H b ex D cA w H) (hS : va_S A H0 H locs) (hX : m_SC ex sc A s H0) {ins : Instr} {st t : List Value} (hok : ∀ v ∈ st, m_ok w v)
    (h : m_al ins sc st w = some t) (hd : decode cc pc = .ok (ins, 1))
    (k : W p l e R s m args below meth c H locs cells slots Q (F0 m (pc + 1) ls (t.map (m_cv b ex)))) : W p l e R s m args below meth c H locs cells slots Q (F0 m pc ls (st.map (m_cv b ex))) := by
  unfold m_al at h
  split at h
  · split at h
    · rename_i i a r
      obtain ⟨x, h1, rfl⟩ := m_pu_s h
      have hoa : m_okr w a := hok _ (List.mem_cons_of_mem _ List.mem_cons_self)
      unfold m_ai at h1
      split at h1
      · rename_i hk
        split at h1
        · cases h1
        · rename_i hi
          cases h1
          have h0 : ¬ (a : Nat) = 0 := fun q => by subst q; simp at hk
          have hat := m_H_arr hH (a := a) hoa (by omega) (by omega)
          rw [hk] at hat
          rw [List.map_cons, List.map_cons, m_cv_ref h0]
          exact va_iald hx hb hK (m_one hat) 0 0 rfl rfl hi hd k
      · split at h1
        · rename_i hk
          split at h1
          · cases h1
          · rename_i hi
            cases h1
            have h0 : ¬ (a : Nat) = 0 := fun q => by subst q; simp at hk
            obtain ⟨x1, x2, x3⟩ := hX a hk
            rw [List.map_cons, List.map_cons, m_cv_ref h0, m_ad_sc hk]
            exact va_sld hx hb x1 x2 x3 hS hi hd k
        · cases h1
    · cases h
  · split at h
    · rename_i i a r
      obtain ⟨x, h1, rfl⟩ := m_pu_s h
      have hoa : m_okr w a := hok _ (List.mem_cons_of_mem _ List.mem_cons_self)
      unfold m_ab at h1
      split at h1
      · rename_i hk
        split at h1
        · cases h1
        · rename_i hi
          cases h1
          have h0 : ¬ (a : Nat) = 0 := fun q => by subst q; simp at hk
          have hat := m_H_arr hH (a := a) hoa (by omega) (by omega)
          rw [List.map_cons, List.map_cons, m_cv_ref h0]
          rcases hk with hk | hk
          · rw [hk] at hat
            exact va_bald hx hb hK (m_one hat) 0 1 rfl rfl hi hd k
          · rw [hk] at hat
            exact va_zald hx hb hK (m_one hat) 0 2 rfl rfl hi hd k
      · cases h1
    · cases h
  · split at h
    · rename_i i a r
      obtain ⟨x, h1, rfl⟩ := m_pu_s h
      have hoa : m_okr w a := hok _ (List.mem_cons_of_mem _ List.mem_cons_self)
      unfold m_aj at h1
      split at h1
      · rename_i hk
        split at h1
        · cases h1
        · rename_i hi
          cases h1
          have h0 : ¬ (a : Nat) = 0 := fun q => by subst q; simp at hk
          have hat := m_H_lng hH (a := a) hoa hk
          rw [List.map_cons, List.map_cons, m_cv_ref h0]
          exact va_lald hx hb hK (m_one hat) 0 3 rfl rfl hi hd k
      · cases h1
    · cases h
  · split at h
    · rename_i a r
      obtain ⟨x, h1, rfl⟩ := m_pu_s h
      have hoa : m_okr w a := hok _ List.mem_cons_self
      unfold m_an at h1
      split at h1
      · rename_i hk
        cases h1
        have h0 : ¬ (a : Nat) = 0 := fun q => by subst q; simp at hk
        rw [List.map_cons, m_cv_ref h0]
        rcases (show ∀ n : Nat, 20 ≤ n → n < 24 → n = 20 ∨ n = 21 ∨ n = 22 ∨ n = 23 by omega) _ hk.1 hk.2 with q | q | q | q
        · have hat := m_H_arr hH (a := a) hoa (by omega) (by omega)
          rw [q] at hat
          exact va_alen hx hb hK (m_one hat) 0 0 rfl rfl rfl hd k
        · have hat := m_H_arr hH (a := a) hoa (by omega) (by omega)
          rw [q] at hat
          exact va_alen hx hb hK (m_one hat) 0 1 rfl rfl rfl hd k
        · have hat := m_H_arr hH (a := a) hoa (by omega) (by omega)
          rw [q] at hat
          exact va_alen hx hb hK (m_one hat) 0 2 rfl rfl rfl hd k
        · have hat := m_H_lng hH (a := a) hoa q
          exact va_alen hx hb hK (m_one hat) 0 3 rfl rfl rfl hd k
      · split at h1
        · rename_i hk
          cases h1
          have h0 : ¬ (a : Nat) = 0 := fun q => by subst q; simp at hk
          obtain ⟨x1, x2, x3⟩ := hX a hk
          rw [List.map_cons, m_cv_ref h0, m_ad_sc hk]
          exact va_slen hx hb x1 x2 x3 hS hd k
        · cases h1
    · cases h
  · cases h
/-- after a store into the cell a -/
theorem m_H_st (hH : m_H b ex D cA w H) {a : Nat} (hoa : m_okr w a) (h1 : a % 32 < 24) (h0 : 0 < a % 32) {H1 : Heap} (n1 : m_n w' = m_n w) (n3 : m_K w' = m_K w) (n4 : m_N w' = m_N w) (n5 : ∀ i, i ≠ a → m_I w' i = m_I w i ∧ m_P w' i = m_P w i ∧ m_J w' i = m_J w i)
    (he : va_at D vwCl (m_ad b ex a, m_ent b ex cA w' (a / 32 - 1)) H1) (e2 : H1.size = H.size) (e3 : ∀ q : Nat, q ≠ m_ad b ex a → H1[q]? = H[q]?) : m_H b ex D cA w' H1 := by
  have had : m_ad b ex a = b + (a / 32 - 1) := m_ad_k h1
  obtain ⟨k1, k2, k3⟩ := m_ok_k (a := a) hoa h1 h0
  refine m_H_upd hH (k0 := a / 32 - 1) n1 n3 (fun kk hkl hkk => ?_) (by rw [← had]; exact he) e2 (by rw [← had]; exact e3)
  by_cases hq : 32 * (kk + 1) + m_K w kk = a
  · have hz := hH.2.1 kk hkl
    omega
  · obtain ⟨z1, z2, z3⟩ := n5 _ hq
    exact m_ent_same (by rw [n3]) (by rw [n4]) z1 z2 z3
theorem m_wI_row (w : mW) (a k : Nat) (v : Int32) : m_I (m_wI w a k v) a = upd (m_I w a) k v := by
  funext j
  by_cases h : j = k <;> simp [m_I, m_wI, m_u2, upd, h]
theorem m_wJ_row (w : mW) (a k : Nat) (v : Int64) : m_J (m_wJ w a k v) a = vp_updL (m_J w a) k v := by
  funext j
  by_cases h : j = k <;> simp [m_J, m_wJ, m_u2, vp_updL, h]
theorem m_ent_i {a k : Nat} {v : Int32} (hoa : m_okr w a) (h1 : 20 ≤ a % 32) (h2 : a % 32 < 23) : m_ent b ex cA (m_wI w a k v) (a / 32 - 1) = .inl (cA (a % 32), m_N w a, .inl (upd (m_I w a) k v)) := by
  obtain ⟨k1, k2, k3⟩ := m_ok_k (a := a) hoa (by omega) (by omega)
  unfold m_ent
  rw [show m_K (m_wI w a k v) (a / 32 - 1) = a % 32 from k3, if_neg (by omega), if_neg (by omega), show 32 * (a / 32 - 1 + 1) + a % 32 = a by omega, m_wI_row]
  rfl
theorem m_ent_j {a k : Nat} {v : Int64} (hoa : m_okr w a) (h1 : a % 32 = 23) : m_ent b ex cA (m_wJ w a k v) (a / 32 - 1) = .inl (cA 23, m_N w a, .inr (.inl (vp_updL (m_J w a) k v))) := by
  obtain ⟨k1, k2, k3⟩ := m_ok_k (a := a) hoa (by omega) (by omega)
  unfold m_ent
  rw [show m_K (m_wJ w a k v) (a / 32 - 1) = a % 32 from k3, if_neg (by omega), if_pos h1, show 32 * (a / 32 - 1 + 1) + a % 32 = a by omega, m_wJ_row, h1]
  rfl
set_option maxHeartbeats 1000000 in
theorem m_as_W (hx : p.tables.exec = Jvm.exec) (hb : c.code = cc) (hK : va_K D vwCl (m_ta cA) s) (hH : m_H b ex D cA w H) (hA : ∀ q, b ≤ q → A q) (hS : va_S A H0 H locs) {ins : Instr} {st t : List Value} (hok : ∀ v ∈ st, m_ok w v)
    (h : m_as ins st w = some (t, w')) (hd : decode cc pc = .ok (ins, 1))
    (k : ∀ (H1 : Heap) (locs1 : List Loc), m_H b ex D cA w' H1 → va_S A H0 H1 locs1 → W p l e R s m args below meth c H1 locs1 cells slots Q (F0 m (pc + 1) ls (t.map (m_cv b ex)))) : W p l e R s m args below meth c H locs cells slots Q (F0 m pc ls (st.map (m_cv b ex))) := by
  unfold m_as at h
  split at h
  · split at h
    · rename_i x i a r
      obtain ⟨h1, rfl⟩ := m_pw_s h
      have hoa : m_okr w a := hok _ (List.mem_cons_of_mem _ (List.mem_cons_of_mem _ List.mem_cons_self))
      unfold m_xi at h1
      split at h1
      · rename_i hk
        split at h1
        · cases h1
        · rename_i hi
          cases h1
          have h0 : ¬ (a : Nat) = 0 := fun q => by subst q; simp at hk
          have had : m_ad b ex a = b + (a / 32 - 1) := m_ad_k (by omega)
          have hat := m_H_arr hH (a := a) hoa (by omega) (by omega)
          rw [hk] at hat
          rw [List.map_cons, List.map_cons, List.map_cons, m_cv_ref h0]
          refine m_iast0 hx hb hK hat (hA _ (by rw [had]; omega)) hS 0 rfl hi hd (fun H1 locs1 e1 e2 e3 e4 => k H1 locs1 (m_H_st hH (a := a) hoa (by omega) (by omega) rfl rfl rfl (fun i hi => ⟨m_u2_a _ _ _ _ hi, rfl, rfl⟩) ?_ e2 e3) e4)
          rw [m_ent_i hoa (by omega) (by omega), hk]
          exact e1
      · cases h1
    · cases h
  · split at h
    · rename_i x i a r
      obtain ⟨h1, rfl⟩ := m_pw_s h
      have hoa : m_okr w a := hok _ (List.mem_cons_of_mem _ (List.mem_cons_of_mem _ List.mem_cons_self))
      unfold m_xb at h1
      split at h1
      · rename_i hk
        split at h1
        · cases h1
        · rename_i hi
          cases h1
          have h0 : ¬ (a : Nat) = 0 := fun q => by subst q; simp at hk
          have had : m_ad b ex a = b + (a / 32 - 1) := m_ad_k (by omega)
          have hat := m_H_arr hH (a := a) hoa (by omega) (by omega)
          rw [hk] at hat
          rw [List.map_cons, List.map_cons, List.map_cons, m_cv_ref h0]
          refine m_bast0 hx hb hK hat (hA _ (by rw [had]; omega)) hS 1 rfl hi hd (fun H1 locs1 e1 e2 e3 e4 => k H1 locs1 (m_H_st hH (a := a) hoa (by omega) (by omega) rfl rfl rfl (fun i hi => ⟨m_u2_a _ _ _ _ hi, rfl, rfl⟩) ?_ e2 e3) e4)
          rw [m_ent_i hoa (by omega) (by omega), hk]
          exact e1
      · split at h1
        · rename_i hk
          split at h1
          · cases h1
          · rename_i hi
            cases h1
            have h0 : ¬ (a : Nat) = 0 := fun q => by subst q; simp at hk
            have had : m_ad b ex a = b + (a / 32 - 1) := m_ad_k (by omega)
            have hat := m_H_arr hH (a := a) hoa (by omega) (by omega)
            rw [hk] at hat
            rw [List.map_cons, List.map_cons, List.map_cons, m_cv_ref h0]
            refine m_zast0 hx hb hK hat (hA _ (by rw [had]; omega)) hS 2 rfl hi hd (fun H1 locs1 e1 e2 e3 e4 => k H1 locs1 (m_H_st hH (a := a) hoa (by omega) (by omega) rfl rfl rfl (fun i hi => ⟨m_u2_a _ _ _ _ hi, rfl, rfl⟩) ?_ e2 e3) e4)
            rw [m_ent_i hoa (by omega) (by omega), hk]
            exact e1
        · cases h1
    · cases h
  · split at h
    · rename_i x i a r
      obtain ⟨h1, rfl⟩ := m_pw_s h
      have hoa : m_okr w a := hok _ (List.mem_cons_of_mem _ (List.mem_cons_of_mem _ List.mem_cons_self))
      unfold m_xj at h1
      split at h1
      · rename_i hk
        split at h1
        · cases h1
        · rename_i hi
          cases h1
          have h0 : ¬ (a : Nat) = 0 := fun q => by subst q; simp at hk
          have had : m_ad b ex a = b + (a / 32 - 1) := m_ad_k (by omega)
          have hat := m_H_lng hH (a := a) hoa hk
          rw [List.map_cons, List.map_cons, List.map_cons, m_cv_ref h0]
          refine m_last0 hx hb hK hat (hA _ (by rw [had]; omega)) hS 3 rfl hi hd (fun H1 locs1 e1 e2 e3 e4 => k H1 locs1 (m_H_st hH (a := a) hoa (by omega) (by omega) rfl rfl rfl (fun i hi => ⟨rfl, rfl, m_u2_a _ _ _ _ hi⟩) ?_ e2 e3) e4)
          rw [m_ent_j hoa hk]
          exact e1
      · cases h1
    · cases h
  · cases h
end MAR
