/-! new cells -/
theorem m_mk_K (w : mW) (kd ln sl k : Nat) (h : k < m_n w) : m_K (m_mk w kd ln sl) k = m_K w k := by
  show (if k = w.1 then kd else w.2.2.1 k) = w.2.2.1 k
  rw [if_neg (show ¬ k = w.1 from fun q => by subst q; exact Nat.lt_irrefl _ h)]
theorem m_mk_Kn (w : mW) (kd ln sl : Nat) : m_K (m_mk w kd ln sl) (m_n w) = kd := by
  show (if w.1 = w.1 then kd else w.2.2.1 w.1) = kd
  rw [if_pos rfl]
theorem m_mk_n (w : mW) (kd ln sl : Nat) : m_n (m_mk w kd ln sl) = m_n w + 1 := rfl
theorem m_mk_N (w : mW) (kd ln sl : Nat) {i : Nat} (h : i ≠ 32 * (m_n w + 1) + kd) : m_N (m_mk w kd ln sl) i = m_N w i := if_neg h
theorem m_mk_Nn (w : mW) (kd ln sl : Nat) : m_N (m_mk w kd ln sl) (32 * (m_n w + 1) + kd) = ln := if_pos rfl
theorem m_mk_I (w : mW) (kd ln sl : Nat) {i : Nat} (h : i ≠ 32 * (m_n w + 1) + kd) : m_I (m_mk w kd ln sl) i = m_I w i := funext fun _ => if_neg h
theorem m_mk_In (w : mW) (kd ln sl : Nat) : m_I (m_mk w kd ln sl) (32 * (m_n w + 1) + kd) = fun _ => 0 := funext fun _ => if_pos rfl
theorem m_mk_P (w : mW) (kd ln sl : Nat) {i : Nat} (h : i ≠ 32 * (m_n w + 1) + kd) : m_P (m_mk w kd ln sl) i = m_P w i := funext fun _ => if_neg h
theorem m_mk_Pn (w : mW) (kd ln sl : Nat) : m_P (m_mk w kd ln sl) (32 * (m_n w + 1) + kd) = fun _ => 0 := funext fun _ => if_pos rfl
theorem m_mk_J (w : mW) (kd ln sl : Nat) {i : Nat} (h : i ≠ 32 * (m_n w + 1) + kd) : m_J (m_mk w kd ln sl) i = m_J w i := funext fun _ => if_neg h
theorem m_mk_Jn (w : mW) (kd ln sl : Nat) : m_J (m_mk w kd ln sl) (32 * (m_n w + 1) + kd) = fun _ => 0 := funext fun _ => if_pos rfl
theorem m_H_mk {b : Nat} {ex : Nat → Nat} {D : va_G} {cA : Nat → Nat} {w : mW} {H H1 : Heap} (h : m_H b ex D cA w H) {kd ln sl : Nat} (hkd : kd < 32) (hs : H1.size = H.size + 1) (ho : ∀ q : Nat, q < H.size → H1[q]? = H[q]?)
    (h0 : kd < 24 → va_at D vwCl (b + m_n w, m_ent b ex cA (m_mk w kd ln sl) (m_n w)) H1) : m_H b ex D cA (m_mk w kd ln sl) H1 := by
  refine ⟨by rw [hs, h.1, m_mk_n]; omega, fun k hk => ?_, fun k hk1 hk2 => ?_⟩
  · rw [m_mk_n] at hk
    rcases Nat.lt_or_ge k (m_n w) with q | q
    · rw [m_mk_K _ _ _ _ _ q]; exact h.2.1 k q
    · rw [show k = m_n w by omega, m_mk_Kn]; exact hkd
  · rw [m_mk_n] at hk1
    rcases Nat.lt_or_ge k (m_n w) with q | q
    · have hz := h.2.1 k q
      have hne : 32 * (k + 1) + m_K w k ≠ 32 * (m_n w + 1) + kd := by omega
      rw [m_mk_K _ _ _ _ _ q] at hk2
      rw [m_ent_same (w := w) (m_mk_K _ _ _ _ _ q) (m_mk_N _ _ _ _ hne) (m_mk_I _ _ _ _ hne) (m_mk_P _ _ _ _ hne) (m_mk_J _ _ _ _ hne)]
      exact (h.2.2 k q hk2).kept (ho _ (by simp; rw [h.1]; omega))
    · have e1 : k = m_n w := by omega
      subst e1
      rw [m_mk_Kn] at hk2
      exact h0 hk2
/-- a link of 'new' -/
def m_kN (own : String) (idx ci : Nat) : Prop := ∃ q : vw_C, vwCl[ci]? = some q ∧ Cond.classLink own idx q.1 ∈ m_tbl ∧ Cond.instantiable q.1 q.2.2 ∈ m_tbl ∧ Cond.initialized q.1 ∈ m_tbl
def m_nw (x : List Nat) (st : List Value) (w : mW) : Option (List Value × mW) := match x with
  | ci :: _ => if ci < 11 then some (.ref (32 * (m_n w + 1) + (ci + 1)) :: st, m_mk w (ci + 1) 0 (m_NF ci)) else none
  | _ => none
theorem m_tc4 : ∀ ci, ci < 11 → ∀ k, k < m_NF ci → m_tc (m_ty ci k) < 4 := by decide +kernel
theorem m_dflt {b : Nat} {ex : Nat → Nat} {w : mW} {a k : Nat} {ty : FieldType} (h : m_tc ty < 4) (hI : m_I w a k = 0) (hP : m_P w a k = 0) (hJ : m_J w a k = 0) : defaultValue ty = m_cv b ex (m_rd w a k (m_tc ty)) := by
  cases ty <;> simp [m_tc, m_rd, hI, hP, hJ, m_cv, defaultValue] at h ⊢
theorem m_arr_ok (ty : ArrayType) (h : m_akd ty ≠ 0) : Cond.arrayClass (newarray.typeOf ty) ∈ m_tbl := by
  cases ty with
  | int => decide +kernel
  | byte => decide +kernel
  | boolean => decide +kernel
  | long => decide +kernel
  | _ => exact absurd rfl h
section MNW
variable {p : Program} {l : Launch} {e : Env} {R : Room} {s : State} {m : MethodId} {args : Array Value} {below : List Frame} {meth : Method} {c : Code} {H : Heap} {locs : List Loc} {cells slots : Nat} {Q : State → Prop} {cc : ByteArray} {pc : Nat} {ls : Array Slot}
variable {b : Nat} {ex : Nat → Nat} {D : va_G} {cA : Nat → Nat} {w w' : mW} {A : Nat → Prop} {H0 : Heap}
theorem m_S_mk {H1 : Heap} (hS : va_S A H0 H locs) (hs : H1.size = H.size + 1) (ho : ∀ q : Nat, q < H.size → H1[q]? = H[q]?) : va_S A H0 H1 locs :=
  ⟨Nat.le_trans hS.1 (by omega), fun x h1 h2 => (ho x (Nat.lt_of_lt_of_le h1 hS.1)).trans (hS.2.1 x h1 h2), hS.2.2⟩
theorem m_nw_W (hx : p.tables.exec = Jvm.exec) (hb : c.code = cc) (hts : ∀ w ∈ m_tbl, w.before args s = true) {own : String} (hown : s.vm.findClass own = some m.cls) (hK : va_K D vwCl (m_ta cA) s) (hH : m_H b ex D cA w H) (hS : va_S A H0 H locs) {idx : Nat} {x : List Nat} {st t : List Value}
    (h : m_nw x st w = some (t, w')) (hlk : m_kN own idx (x.getD 0 0)) (hcells : cells + 1 ≤ R.cells) (hslots : slots + (m_s w' - m_s w) ≤ R.slots) (hd : decode cc pc = .ok (.new idx, 3))
    (k : ∀ (H1 : Heap), m_H b ex D cA w' H1 → va_S A H0 H1 locs → W p l e R s m args below meth c H1 locs (cells + 1) (slots + (m_s w' - m_s w)) Q (F0 m (pc + 3) ls (t.map (m_cv b ex)))) : W p l e R s m args below meth c H locs cells slots Q (F0 m pc ls (st.map (m_cv b ex))) := by
  unfold m_nw at h
  split at h
  · rename_i ci y
    rw [if_pos (by obtain ⟨q, h1, -⟩ := hlk; exact (List.getElem?_eq_some_iff.mp h1).1)] at h
    cases h
    obtain ⟨⟨C, T, N⟩, h1, h2, h3, h4⟩ := hlk
    simp only [List.getD_cons_zero] at h1 h2 h3 h4
    obtain ⟨g1, g2, g3, g4, g5⟩ := m_cls _ _ h1
    dsimp only at g2
    subst g2
    have hci : ci < 11 := (List.getElem?_eq_some_iff.mp h1).1
    have hsl : m_s (m_mk w (ci + 1) 0 (m_NF ci)) - m_s w = m_NF ci := by
      show w.2.1 + m_NF ci - w.2.1 = m_NF ci
      omega
    rw [hsl] at hslots k
    have hKn := hK.1 ci _ h1
    refine W.newcK hx hb hown (hts _ h2) (hts _ h3) (hts _ h4) rfl hd hcells hslots hKn.2.1 rfl fun H1 kC hkC e1 z1 o1 => ?_
    have ha : m_cv b ex (.ref (32 * (m_n w + 1) + (ci + 1))) = .ref H.size := by
      have e8 : (32 * (m_n w + 1) + (ci + 1)) / 32 - 1 = m_n w := by omega
      rw [m_cv_ref (by omega), m_ad_k (by omega), hH.1, e8]
    have kk := k H1 (m_H_mk hH (by omega) z1 o1 (fun _ => ?_)) (m_S_mk hS z1 o1)
    · rw [List.map_cons, ha] at kk
      exact kk
    · have hen : m_ent b ex cA (m_mk w (ci + 1) 0 (m_NF ci)) (m_n w) = .inr (ci, m_fs b ex (m_mk w (ci + 1) 0 (m_NF ci)) ci (32 * (m_n w + 1) + (ci + 1))) := by
        unfold m_ent
        rw [m_mk_Kn, if_pos (by omega)]
        rfl
      rw [hen, ← hH.1]
      refine ⟨_, h1, (u_born (m_ty ci) hts g3 hKn hkC e1 g4).to (fun j hj => ?_)⟩
      have e9 : vp_V (m_fs b ex (m_mk w (ci + 1) 0 (m_NF ci)) ci (32 * (m_n w + 1) + (ci + 1))) j = m_cv b ex (m_rd (m_mk w (ci + 1) 0 (m_NF ci)) (32 * (m_n w + 1) + (ci + 1)) j (m_tc (m_ty ci j))) := by
        unfold vp_V
        rw [List.getD_eq_getElem?_getD, m_fs_get hj]
        rfl
      rw [e9]
      exact m_dflt (m_tc4 ci hci j hj) (by rw [m_mk_In]) (by rw [m_mk_Pn]) (by rw [m_mk_Jn])
  · cases h
theorem m_na_W (hx : p.tables.exec = Jvm.exec) (hb : c.code = cc) (hts : ∀ w ∈ m_tbl, w.before args s = true) (hK : va_K D vwCl (m_ta cA) s) (hH : m_H b ex D cA w H) (hS : va_S A H0 H locs) {ty : ArrayType} {st t : List Value}
    (h : m_na ty st w = some (t, w')) (hcells : cells + 1 ≤ R.cells) (hslots : slots + (m_s w' - m_s w) ≤ R.slots) (hd : decode cc pc = .ok (.newarray ty, 2))
    (k : ∀ (H1 : Heap), m_H b ex D cA w' H1 → va_S A H0 H1 locs → W p l e R s m args below meth c H1 locs (cells + 1) (slots + (m_s w' - m_s w)) Q (F0 m (pc + 2) ls (t.map (m_cv b ex)))) : W p l e R s m args below meth c H locs cells slots Q (F0 m pc ls (st.map (m_cv b ex))) := by
  unfold m_na at h
  split at h
  · rename_i n r
    split at h
    · cases h
    · rename_i hc
      cases h
      have hz : m_akd ty ≠ 0 := fun q => hc (Or.inr (Or.inr q))
      have hn : ¬ n < 0 := fun q => hc (Or.inl q)
      have hl : n.toNatClampNeg < 60000 := Nat.lt_of_not_le fun q => hc (Or.inr (Or.inl q))
      have hsl : m_s (m_mk w (m_akd ty) n.toNatClampNeg n.toNatClampNeg) - m_s w = n.toNatClampNeg := by
        show w.2.1 + n.toNatClampNeg - w.2.1 = n.toNatClampNeg
        omega
      rw [hsl] at hslots k
      have hcb : componentBytes (newarray.typeOf ty) ≤ 8 := by cases ty <;> decide
      have hby : n.toNatClampNeg * componentBytes (newarray.typeOf ty) ≤ 536870912 := by
        have := Nat.mul_le_mul (Nat.le_of_lt hl) hcb
        omega
      have hr : m_akd ty = 20 ∨ m_akd ty = 21 ∨ m_akd ty = 22 ∨ m_akd ty = 23 := by cases ty <;> simp [m_akd] at hz ⊢
      refine va_newaK hx hb (hts _ (m_arr_ok ty hz)) rfl hd rfl hn rfl hby hcells hslots rfl fun H1 c1 e1 z1 o1 ha1 hf1 => ?_
      have ha : m_cv b ex (.ref (32 * (m_n w + 1) + m_akd ty)) = .ref H.size := by
        have e8 : (32 * (m_n w + 1) + m_akd ty) / 32 - 1 = m_n w := by omega
        rw [m_cv_ref (by omega), m_ad_k (by omega), hH.1, e8]
      have kk := k H1 (m_H_mk hH (by omega) z1 o1 (fun _ => ?_)) (m_S_mk hS z1 o1)
      · rw [List.map_cons, ha] at kk
        exact kk
      · rw [← hH.1]
        unfold m_ent
        rw [m_mk_Kn, if_neg (by omega), m_mk_Nn, m_mk_In, m_mk_Jn]
        cases ty with
        | int =>
          have hq : c1 = cA 20 := Option.some.inj (hf1.symm.trans (hK.2 0 _ rfl).2)
          subst hq
          exact e1
        | byte =>
          have hq : c1 = cA 21 := Option.some.inj (hf1.symm.trans (hK.2 1 _ rfl).2)
          subst hq
          exact e1
        | boolean =>
          have hq : c1 = cA 22 := Option.some.inj (hf1.symm.trans (hK.2 2 _ rfl).2)
          subst hq
          exact e1
        | long =>
          have hq : c1 = cA 23 := Option.some.inj (hf1.symm.trans (hK.2 3 _ rfl).2)
          subst hq
          exact e1
        | _ => exact absurd rfl hz
  · cases h
end MNW
