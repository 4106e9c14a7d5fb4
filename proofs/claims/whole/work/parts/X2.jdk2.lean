/-! Arrays.copyOf, and every member's call -/
section MJ2
variable {p : Program} {l : Launch} {e : Env} {R : Room} {s : State} {m : MethodId} {args : Array Value} {below : List Frame} {meth : Method} {c : Code} {H : Heap} {locs : List Loc} {cells slots : Nat} {Q : State → Prop} {pc : Nat} {ls : Array Slot} {rest : List Value}
variable {D : va_G} {cA : Nat → Nat} {b : Nat} {ex : Nat → Nat} {sc : mS}
/-- the beginning of an int[] put into the beginning of another -/
theorem m_arcW {cc : ByteArray} (hx : p.tables.exec = Jvm.exec) (hb : c.code = cc) (hml : c.maxLocals = ls.size) {own : String} {index : Nat} (hown : s.vm.findClass own = some m.cls) (hlink : (Cond.methodLink own index arraycopyName).before args s = true) (hnat : (Cond.native arraycopyName).before args s = true) (hstat : (Cond.static arraycopyName).before args s = true) (hini : (Cond.initialized "java/lang/System").before args s = true)
    (hK : va_K D vwCl (m_ta cA) s) {a0 a1 n0 n1 : Nat} {f g : Nat → Int32} (hc0 : H[a0]? = some (vp_cell (cA 20) (n0, .inl f))) (hc1 : H[a1]? = some (vp_cell (cA 20) (n1, .inl g))) {n : Int32} (h3 : ¬ n < 0) (h4 : n.toNatClampNeg ≤ n0) (h5 : n.toNatClampNeg ≤ n1)
    (hframes : 1 ≤ R.frames) (hlocals : (rest.map fun v => v.category).sum + (nativeFrameWords "java/lang/System" "arraycopy" 5 + 11) ≤ R.locals) (hd : decode cc pc = .ok (.invokestatic index, 3))
    (kk : ∀ (H1 : Heap) (L : List Loc), H1.size = H.size → H1[a1]? = some (vp_cell (cA 20) (n1, .inl (va_cpy f g 0 0 n.toNatClampNeg))) → (∀ q : Nat, q ≠ a1 → H1[q]? = H[q]?) → (∀ z ∈ L, z.base = a1) → W p l e R s m args below meth c H1 (locs ++ L) cells slots Q (F0 m (pc + 3) ls rest)) :
    W p l e R s m args below meth c H locs cells slots Q (F0 m pc ls (.int n :: .int 0 :: .ref a1 :: .int 0 :: .ref a0 :: rest)) := by
  have z0 : ¬ (0 : Int32) < 0 := by decide
  have hn := m_i_nn h3
  have zi : (0 : Int32).toInt = 0 := by decide
  intro T hT X
  obtain ⟨-, k0, hk0, cm0, hkk0⟩ := (hK.2 0 _ rfl).1 n0 (fun j => .int (f j))
  obtain ⟨-, k1, hk1, cm1, hkk1⟩ := (hK.2 0 _ rfl).1 n1 (fun j => .int (g j))
  obtain ⟨vm', X', step⟩ := X.arraycopy hx hown hlink hnat hstat hini (src := a0) (dst := a1) (cs := vp_cell (cA 20) (n0, .inl f)) (cd := vp_cell (cA 20) (n1, .inl g)) (srcPos := 0) (destPos := 0) (n := n) (by rw [hT]; exact hc0) (by rw [hT]; exact hc1)
    (fun _ h => by cases h) (fun _ h => by cases h) (fun h => by cases h) (fun h => by cases h) hk0 hk1 hkk0 hkk1 (by simp [refKind]) z0 z0 h3
    (by rw [zi, hn]; show ¬ _ > ((arrV (cA 20) n0 (fun j => .int (f j))).slots.size : Int); rw [arrV_size]; omega)
    (by rw [zi, hn]; show ¬ _ > ((arrV (cA 20) n1 (fun j => .int (g j))).slots.size : Int); rw [arrV_size]; omega)
    (fun vm₁ _ i hi => by
      have e : (vp_cell (cA 20) (n0, .inl f)).slots.getD ((0 : Int32).toNatClampNeg + i) .null = .int (f ((0 : Int32).toNatClampNeg + i)) := by
        show (arrV (cA 20) n0 (fun j => .int (f j))).slots.getD _ _ = _
        rw [Array.getD_eq_getD_getElem?, arrV_read _ _ (by rw [m_z0]; omega)]
        rfl
      refine ⟨?_, ?_⟩
      · rw [e]
        rfl
      · rw [e]
        exact trivial)
    (g := F0 m pc ls (.int n :: .int 0 :: .ref a1 :: .int 0 :: .ref a0 :: rest)) rfl (by rw [hml]) (rest := rest) rfl (by rw [hb]; exact hd) hframes (by show 2 * 0 + _ + _ ≤ _; omega)
  have e1 : copied (vp_cell (cA 20) (n0, .inl f)) (vp_cell (cA 20) (n1, .inl g)) 0 0 n = vp_cell (cA 20) (n1, .inl (va_cpy f g 0 0 n.toNatClampNeg)) := va_copied (fun z => .int z) (cA 20) (cA 20) f g (by rw [m_z0]; omega)
  rw [e1] at X' step
  have hl : a1 < H.size := (Array.getElem?_eq_some_iff.mp hc1).1
  have hheap : ((T.setVm vm').setCell a1 (vp_cell (cA 20) (n1, .inl (va_cpy f g 0 0 n.toNatClampNeg)))).heap = H.setIfInBounds a1 (vp_cell (cA 20) (n1, .inl (va_cpy f g 0 0 n.toNatClampNeg))) := by rw [← hT]; rfl
  obtain ⟨t, b1, b2⟩ := kk _ _ (by simp) (by simp [Array.getElem?_setIfInBounds, hl]) (fun q hq => by simp [Array.getElem?_setIfInBounds, Ne.symm hq]) (fun z hz => by
    obtain ⟨y, -, hy⟩ := List.mem_map.mp hz
    rw [← hy]) _ hheap X'
  exact ⟨t, step t b1, b2⟩
/-- the world behind copyOf -/
theorem m_H_cpy {w : mW} {a n : Nat} {H1 H2 : Heap} (hoa : m_okr w a) (hk : a % 32 = 20) (hH : m_H b ex D cA (m_mk w 20 n n) H1) (hs : H2.size = H1.size) (ho : ∀ q : Nat, q ≠ b + m_n w → H2[q]? = H1[q]?)
    (hc : H2[b + m_n w]? = some (vp_cell (cA 20) (n, .inl (fun j => if j < m_N w a ∧ j < n then m_I w a j else 0)))) : m_H b ex D cA (m_cpy w a n) H2 := by
  have e8 : (32 * (m_n w + 1) + 20) / 32 - 1 = m_n w := by omega
  have had : m_ad b ex (32 * (m_n w + 1) + 20) = b + m_n w := by rw [m_ad_k (by omega), e8]
  refine m_H_st (w := m_mk w 20 n n) (w' := m_cpy w a n) hH (a := 32 * (m_n w + 1) + 20) (m_mk_ok w (kd := 20) n n (by omega)) (by omega) (by omega) rfl rfl rfl (fun i hi => ⟨?_, rfl, rfl⟩) ?_ hs (by rw [had]; exact ho)
  · funext j
    show (if i = 32 * (m_n w + 1) + 20 then _ else _) = (if i = 32 * (m_n w + 1) + 20 then _ else _)
    rw [if_neg hi, if_neg hi]
  · rw [had, e8]
    have h1 : m_K (m_cpy w a n) (m_n w) = 20 := if_pos rfl
    have h2 : m_N (m_cpy w a n) (32 * (m_n w + 1) + 20) = n := if_pos rfl
    have h3 : m_I (m_cpy w a n) (32 * (m_n w + 1) + 20) = fun j => if j < m_N w a ∧ j < n then m_I w a j else 0 := funext fun _ => if_pos rfl
    unfold m_ent
    rw [h1, if_neg (by omega), if_neg (by omega), h2, h3]
    exact hc
set_option maxHeartbeats 1000000 in
theorem mj_cp_M {a : Nat} {n : Int32} {w : mW} (hk : a % 32 = 20) (hoa : m_okr w a) (hn0 : ¬ n < 0) (hn1 : n.toNatClampNeg < 60000) (hne : ¬ n.toNatClampNeg = m_N w a) (hN : m_N w a < 60000) :
    Met l (m_My mj_cp) (m_ws mj_cp) (mj_rm 3 1 n.toNatClampNeg 200) (mj_P D cA b ex sc [.ref (m_ad b ex a), .int n] w mj_T) (m_Qc b ex D cA (.inl (some (.ref (32 * (m_n w + 1) + 20)))) (m_cpy w a n.toNatClampNeg)) 1 n.toNatClampNeg (m_A b) := by
  refine mj_met mj_cp_k (by show 2 ≤ 3; omega) ?_
  intro p e s m below meth c ls hx hb hr hml hts hown hlocks hH hKn hX hL
  have hK := hKn.1
  obtain ⟨k1, k2, k3⟩ := m_ok_k (w := w) (a := a) hoa (by omega) (by omega)
  obtain ⟨f1, f2, f3⟩ := m_ofN hN
  obtain ⟨f4, f5⟩ := m_min_n hn0 hN
  have e8 : (32 * (m_n w + 1) + 20) / 32 - 1 = m_n w := by omega
  have had : m_ad b ex (32 * (m_n w + 1) + 20) = b + m_n w := by rw [m_ad_k (by omega), e8]
  have haa : m_ad b ex a = b + (a / 32 - 1) := m_ad_k (by omega)
  have hat := m_H_arr hH (a := a) hoa (by omega) (by omega)
  rw [hk] at hat
  refine lv_iload_n hx hb (x := n) dj_cp_0 rfl (lv_at hL 1 rfl) ?_
  refine lv_aload_n hx hb (x := m_ad b ex a) dj_cp_1 rfl (lv_at hL 0 rfl) ?_
  refine va_alen hx hb hK (m_one hat) 0 0 rfl rfl rfl dj_cp_2 ?_
  refine lv_icmp_ne hx hb (tgt := 14) dj_cp_3 (by decide) (fun _ => ?_) (fun h => absurd (by rw [h]; exact f2) hne)
  refine lv_iload_n hx hb (x := n) dj_cp_14 rfl (lv_at hL 1 rfl) ?_
  have hna : m_na .int [.int n] w = some ([.ref (32 * (m_n w + 1) + 20)], m_mk w 20 n.toNatClampNeg n.toNatClampNeg) := by
    have hq : ¬ (n < 0 ∨ 60000 ≤ n.toNatClampNeg ∨ m_akd .int = 0) := by
      intro z
      rcases z with z | z | z
      · exact hn0 z
      · omega
      · cases z
    show (if n < 0 ∨ 60000 ≤ n.toNatClampNeg ∨ m_akd .int = 0 then none else some ([Value.ref (32 * (m_n w + 1) + 20)], m_mk w 20 n.toNatClampNeg n.toNatClampNeg)) = _
    rw [if_neg hq]
  have hsl : m_s (m_mk w 20 n.toNatClampNeg n.toNatClampNeg) - m_s w = n.toNatClampNeg := by
    show w.2.1 + n.toNatClampNeg - w.2.1 = n.toNatClampNeg
    omega
  refine m_na_W (A := m_A b) (st := [.int n]) hx hb hts hK hH va_S.rf hna (by show 0 + 1 ≤ 1; omega) (by rw [hsl]; show 0 + n.toNatClampNeg ≤ n.toNatClampNeg; omega) dj_cp_15 (fun H1 hH1 hS1 => ?_)
  rw [hsl, Nat.zero_add, Nat.zero_add, List.map_cons, m_cv_ref (by omega), had]
  refine lv_astore_n hx hb dj_cp_17 rfl hL (by decide) (rfl : _ = [(2, Value.ref (b + m_n w)), (0, .ref (m_ad b ex a)), (1, .int n)]) (fun ls' hL' => ?_)
  refine lv_aload_n hx hb (x := m_ad b ex a) dj_cp_18 rfl (lv_at hL' 1 rfl) ?_
  refine lv_iconst hx hb (v := 0) dj_cp_19 rfl ?_
  refine lv_aload_n hx hb (x := b + m_n w) dj_cp_20 rfl (lv_at hL' 0 rfl) ?_
  refine lv_iconst hx hb (v := 0) dj_cp_21 rfl ?_
  refine lv_aload_n hx hb (x := m_ad b ex a) dj_cp_22 rfl (lv_at hL' 1 rfl) ?_
  have hoA : m_okr (m_mk w 20 n.toNatClampNeg n.toNatClampNeg) a := Or.inr (Or.inr ⟨k1, by rw [m_mk_n]; omega, by rw [m_mk_K _ _ _ _ _ k2]; exact k3⟩)
  have hneA : a ≠ 32 * (m_n w + 1) + 20 := by omega
  have hat1 := m_H_arr hH1 (a := a) hoA (by omega) (by omega)
  rw [hk, m_mk_N _ _ _ _ hneA, m_mk_I _ _ _ _ hneA] at hat1
  have hat2 := m_H_arr hH1 (a := 32 * (m_n w + 1) + 20) (m_mk_ok w (kd := 20) n.toNatClampNeg n.toNatClampNeg (by omega)) (by omega) (by omega)
  rw [show (32 * (m_n w + 1) + 20) % 32 = 20 by omega, m_mk_Nn, m_mk_In, had] at hat2
  have hc0 : H1[m_ad b ex a]? = some (vp_cell (cA 20) (m_N w a, .inl (m_I w a))) := hat1
  have hc1 : H1[b + m_n w]? = some (vp_cell (cA 20) (n.toNatClampNeg, .inl (fun _ => 0))) := hat2
  refine va_alen hx hb hK (m_one hat1) 0 0 rfl rfl rfl dj_cp_23 ?_
  refine lv_iload_n hx hb (x := n) dj_cp_24 rfl (lv_at hL' 2 rfl) ?_
  refine va_mmin hx hb (hml.trans hL'.1.symm) hown (hts _ mw_min_l) (hts _ mw_min_t) (hts _ mw_math) (hts _ mw_min_c) (by show 1 ≤ 3; omega) (by show 4 + 13 ≤ 200; omega) (Nat.le_refl _) (Nat.le_refl _) dj_cp_25 ?_
  refine m_arcW hx hb (hml.trans hL'.1.symm) hown (hts _ mw_ac_l) (hts _ mw_ac_n) (hts _ mw_ac_t) (hts _ mw_sys) hK hc0 hc1 f4 (by rw [f5]; omega) (by rw [f5]; omega) (by show 1 ≤ 3; omega) (by show 0 + (5 + 2 + 11) ≤ 200; omega) dj_cp_28 (fun H2 L g1 g2 g3 g4 => ?_)
  refine lv_aload_n hx hb (x := b + m_n w) dj_cp_31 rfl (lv_at hL' 0 rfl) ?_
  have hH2 : m_H b ex D cA (m_cpy w a n.toNatClampNeg) H2 := by
    have hv : va_cpy (m_I w a) (fun _ => 0) 0 0 (if n < Int32.ofNat (m_N w a) then n else Int32.ofNat (m_N w a)).toNatClampNeg = fun j => if j < m_N w a ∧ j < n.toNatClampNeg then m_I w a j else 0 := by
      funext j
      show (if 0 ≤ j ∧ j < 0 + (if n < Int32.ofNat (m_N w a) then n else Int32.ofNat (m_N w a)).toNatClampNeg then m_I w a (0 + (j - 0)) else (0 : Int32)) = _
      rw [f5, Nat.zero_add, Nat.zero_add, Nat.sub_zero]
      by_cases hj : j < m_N w a ∧ j < n.toNatClampNeg
      · rw [if_pos hj, if_pos ⟨Nat.zero_le _, by omega⟩]
      · rw [if_neg hj, if_neg (fun z => hj (by omega))]
    rw [hv] at g2
    exact m_H_cpy hoa hk hH1 g1 g3 g2
  have hS2 : va_S (m_A b) s.heap H2 ([] ++ L) := by
    refine ⟨by rw [g1]; exact hS1.1, fun q q1 q2 => ?_, fun z hz => ?_⟩
    · have q3 : ¬ b ≤ q := q2
      rw [g3 q (by omega)]
      exact hS1.2.1 q q1 q2
    · rw [g4 z (by simpa using hz)]
      show b ≤ b + m_n w
      omega
  refine W.aret hx hb hr (Or.inr ⟨_, rfl⟩) (Or.inr ⟨_, rfl⟩) (fun t ht _ => ⟨⟨some (.ref (32 * (m_n w + 1) + 20)), rfl, ?_⟩, by rw [ht]; exact hH2, hS2.F ht⟩) hS2.2.2 dj_cp_32 hlocks
  rw [Option.map_some, m_cv_ref (by omega), had]
end MJ2
section MJB
variable {l : Launch} {D : va_G} {cA : Nat → Nat} {b : Nat} {ex : Nat → Nat} {sc : mS} {M : mM} {pc idx : Nat}
theorem m_sig_k {a : Nat} (h : a % 32 = 25 ∧ 1 ≤ a / 32 ∧ a / 32 ≤ 35) : ∃ (k : Nat) (q : String × Nat × String × List Nat), m_strs[k]? = some q ∧ a = 32 * (k + 1) + 25 ∧ m_sig a = q.2.2.2 ∧ ¬ a = 0 := by
  have hl : m_strs.length = 35 := by decide +kernel
  have hq : m_strs[a / 32 - 1]? = some (m_strs[a / 32 - 1]'(by omega)) := List.getElem?_eq_getElem _
  exact ⟨a / 32 - 1, _, hq, by omega, by unfold m_sig; rw [hq], by omega⟩
theorem m_ad_st {k : Nat} : m_ad b ex (32 * (k + 1) + 25) = mj_s ex k := by
  unfold m_ad
  rw [if_pos (Or.inr (by omega))]
theorem m_bi_s {k : Nat} {st t : List Value} {w w1 : mW} (h : m_bi k st w = some (t, w1)) :
    (k = 0 ∧ ∃ (a : Nat) (r : List Value), st = .ref a :: r ∧ (a % 32 = 25 ∧ 1 ≤ a / 32 ∧ a / 32 ≤ 35) ∧ (r.map (fun v => v.category)).sum ≤ 8 ∧ t = .int (Int32.ofNat (m_sig a).length) :: r ∧ w1 = w) ∨
    (k = 1 ∧ ∃ (i : Int32) (a : Nat) (r : List Value), st = .int i :: .ref a :: r ∧ (a % 32 = 25 ∧ 1 ≤ a / 32 ∧ a / 32 ≤ 35) ∧ (r.map (fun v => v.category)).sum ≤ 8 ∧ ¬ (i < 0 ∨ (m_sig a).length ≤ i.toNatClampNeg) ∧ t = .int (Int32.ofNat ((m_sig a).getD i.toNatClampNeg 0)) :: r ∧ w1 = w) ∨
    (k = 2 ∧ ∃ (n : Int32) (a : Nat) (r : List Value), st = .int n :: .ref a :: r ∧ a % 32 = 20 ∧ (r.map (fun v => v.category)).sum ≤ 8 ∧ ¬ (n < 0 ∨ 60000 ≤ n.toNatClampNeg ∨ n.toNatClampNeg = m_N w a ∨ 60000 ≤ m_N w a) ∧ t = .ref (32 * (m_n w + 1) + 20) :: r ∧ w1 = m_cpy w a n.toNatClampNeg) ∨
    (k = 3 ∧ ∃ (y x : Int32) (r : List Value), st = .int y :: .int x :: r ∧ (r.map (fun v => v.category)).sum ≤ 8 ∧ t = .int (if x < y then y else x) :: r ∧ w1 = w) ∨
    (k = 4 ∧ ∃ (y x : Int32) (r : List Value), st = .int y :: .int x :: r ∧ (r.map (fun v => v.category)).sum ≤ 8 ∧ t = .int (if y < x then y else x) :: r ∧ w1 = w) := by
  unfold m_bi at h
  split at h
  · split at h
    · rename_i hc
      cases h
      exact Or.inl ⟨rfl, _, _, rfl, hc.1, hc.2, rfl, rfl⟩
    · cases h
  · split at h
    · rename_i hc
      split at h
      · cases h
      · rename_i hi
        cases h
        exact Or.inr (Or.inl ⟨rfl, _, _, _, rfl, hc.1, hc.2, hi, rfl, rfl⟩)
    · cases h
  · split at h
    · rename_i hc
      split at h
      · cases h
      · rename_i hi
        cases h
        exact Or.inr (Or.inr (Or.inl ⟨rfl, _, _, _, rfl, hc.1, hc.2, hi, rfl, rfl⟩))
    · cases h
  · split at h
    · rename_i hc
      cases h
      exact Or.inr (Or.inr (Or.inr (Or.inl ⟨rfl, _, _, _, rfl, hc, rfl, rfl⟩)))
    · cases h
  · split at h
    · rename_i hc
      cases h
      exact Or.inr (Or.inr (Or.inr (Or.inr ⟨rfl, _, _, _, rfl, hc, rfl, rfl⟩)))
    · cases h
  · cases h
theorem m_bi0_W (hl : Cond.methodLink (m_My M).cls idx (m_My mj_ln) ∈ m_tbl) (hd : decode (m_Mb M) pc = .ok (.invokevirtual idx, 3)) : m_biP l D cA b ex sc M pc 0 := by
  intro p e R s m args below meth c H locs cells slots Q lsC st t w w1 hbd hsz hH hS hok h hR1 hR2 hR3 hR4 k
  obtain ⟨hx, hb, hr, hml, hts, hown, hnm, hlocks, htab, hKn⟩ := hbd
  rcases m_bi_s h with ⟨-, a, r, rfl, hc, hcat, rfl, rfl⟩ | ⟨z, -⟩ | ⟨z, -⟩ | ⟨z, -⟩ | ⟨z, -⟩
  · obtain ⟨kk, q, hq, rfl, hsg, h0⟩ := m_sig_k hc
    rw [Nat.sub_self, Nat.sub_self] at k
    rw [hsg] at k
    rw [List.map_cons, m_cv_ref h0, m_ad_st]
    have hkk : kk < m_strs.length := (List.getElem?_eq_some_iff.mp hq).1
    obtain ⟨av, hS6⟩ := hKn.2.2.2.2.1.2.1
    exact mj_V (Mj := mj_ln) (As := []) (v := some (.int (Int32.ofNat q.2.2.2.length))) hx hb hml hts hown hKn hH hS hsz mj_ln_k hl mw_ln_i mw_ln_s (hS6.recv hkk hS) (fun _ _ _ _ h => h) (fun _ _ _ => trivial) (mj_ln_M hq) rfl (by rw [m_cat_map]; exact hcat) (by show 2 + 1 ≤ R.frames; omega) (by show 8 + (1 + 11) + 80 ≤ R.locals; omega) rfl rfl (by omega) hd k
  · cases z
  · cases z
  · cases z
  · cases z
theorem m_bi1_W (hl : Cond.methodLink (m_My M).cls idx (m_My mj_ch) ∈ m_tbl) (hd : decode (m_Mb M) pc = .ok (.invokevirtual idx, 3)) : m_biP l D cA b ex sc M pc 1 := by
  intro p e R s m args below meth c H locs cells slots Q lsC st t w w1 hbd hsz hH hS hok h hR1 hR2 hR3 hR4 k
  obtain ⟨hx, hb, hr, hml, hts, hown, hnm, hlocks, htab, hKn⟩ := hbd
  rcases m_bi_s h with ⟨z, -⟩ | ⟨-, i, a, r, rfl, hc, hcat, hi, rfl, rfl⟩ | ⟨z, -⟩ | ⟨z, -⟩ | ⟨z, -⟩
  · cases z
  · obtain ⟨kk, q, hq, rfl, hsg, h0⟩ := m_sig_k hc
    rw [Nat.sub_self, Nat.sub_self] at k
    rw [hsg] at k hi
    rw [List.map_cons, List.map_cons, m_cv_ref h0, m_ad_st]
    have hkk : kk < m_strs.length := (List.getElem?_eq_some_iff.mp hq).1
    have hi0 : ¬ i < 0 := fun z => hi (Or.inl z)
    have hi1 : i.toNatClampNeg < q.2.2.2.length := Nat.lt_of_not_le fun z => hi (Or.inr z)
    obtain ⟨av, hS6⟩ := hKn.2.2.2.2.1.2.1
    exact mj_V (Mj := mj_ch) (As := [.int i]) (v := some (.int (Int32.ofNat (q.2.2.2.getD i.toNatClampNeg 0)))) hx hb hml hts hown hKn hH hS hsz mj_ch_k hl mw_ch_i mw_ch_s (hS6.recv hkk hS) (fun _ _ _ _ h => h) (fun _ _ _ => trivial) (mj_ch_M hq hi0 hi1) rfl (by rw [m_cat_map]; exact hcat) (by show 4 + 1 ≤ R.frames; omega) (by show 8 + (2 + 11) + 160 ≤ R.locals; omega) rfl rfl (by omega) hd k
  · cases z
  · cases z
  · cases z
theorem m_bi2_W (hl : Cond.methodLink (m_My M).cls idx (m_My mj_cp) ∈ m_tbl) (hd : decode (m_Mb M) pc = .ok (.invokestatic idx, 3)) : m_biP l D cA b ex sc M pc 2 := by
  intro p e R s m args below meth c H locs cells slots Q lsC st t w w1 hbd hsz hH hS hok h hR1 hR2 hR3 hR4 k
  obtain ⟨hx, hb, hr, hml, hts, hown, hnm, hlocks, htab, hKn⟩ := hbd
  rcases m_bi_s h with ⟨z, -⟩ | ⟨z, -⟩ | ⟨-, n, a, r, rfl, hc, hcat, hi, rfl, rfl⟩ | ⟨z, -⟩ | ⟨z, -⟩
  · cases z
  · cases z
  · have hoa : m_okr w a := hok (.ref a) (by simp)
    have h0 : ¬ a = 0 := fun z => by subst z; simp at hc
    have q1 : ¬ n < 0 := fun z => hi (Or.inl z)
    have q2 : n.toNatClampNeg < 60000 := Nat.lt_of_not_le fun z => hi (Or.inr (Or.inl z))
    have q3 : ¬ n.toNatClampNeg = m_N w a := fun z => hi (Or.inr (Or.inr (Or.inl z)))
    have q4 : m_N w a < 60000 := Nat.lt_of_not_le fun z => hi (Or.inr (Or.inr (Or.inr z)))
    have e1 : m_n (m_cpy w a n.toNatClampNeg) - m_n w = 1 := by
      show w.1 + 1 - w.1 = 1
      omega
    have e2 : m_s (m_cpy w a n.toNatClampNeg) - m_s w = n.toNatClampNeg := by
      show w.2.1 + n.toNatClampNeg - w.2.1 = n.toNatClampNeg
      omega
    rw [e1, e2] at k
    rw [e1] at hR1
    rw [e2] at hR2
    rw [List.map_cons, List.map_cons, m_cv_ref h0]
    exact mj_S (Mj := mj_cp) (As := [.ref (m_ad b ex a), .int n]) (v := some (.ref (32 * (m_n w + 1) + 20))) hx hb hml hts hown hKn hH hS hsz mj_cp_k hl mw_cp_t (fun _ _ _ _ h => h) (fun _ _ _ => trivial) (mj_cp_M hc hoa q1 q2 q3 q4) rfl (by rw [m_cat_map]; exact hcat) (by show 3 + 1 ≤ R.frames; omega) (by show 8 + (3 + 11) + 200 ≤ R.locals; omega) rfl rfl ⟨hR1, hR2⟩ hd k
  · cases z
  · cases z
theorem m_bi3_W (hl : Cond.methodLink (m_My M).cls idx Lib.Math.max.name ∈ m_tbl) (hd : decode (m_Mb M) pc = .ok (.invokestatic idx, 3)) : m_biP l D cA b ex sc M pc 3 := by
  intro p e R s m args below meth c H locs cells slots Q lsC st t w w1 hbd hsz hH hS hok h hR1 hR2 hR3 hR4 k
  obtain ⟨hx, hb, hr, hml, hts, hown, hnm, hlocks, htab, hKn⟩ := hbd
  rcases m_bi_s h with ⟨z, -⟩ | ⟨z, -⟩ | ⟨z, -⟩ | ⟨-, y, x, r, rfl, hcat, rfl, rfl⟩ | ⟨z, -⟩
  · cases z
  · cases z
  · cases z
  · rw [Nat.sub_self, Nat.sub_self] at k
    rw [Nat.sub_self] at hR1 hR2
    exact va_mmax hx hb (hml.trans hsz.symm) hown (hts _ hl) (hts _ mw_max_t) (hts _ mw_math) (hts _ mw_max_c) (by omega) (by rw [m_cat_map]; omega) hR1 hR2 hd (k H locs hH hS)
  · cases z
theorem m_bi4_W (hl : Cond.methodLink (m_My M).cls idx Lib.Math.min.name ∈ m_tbl) (hd : decode (m_Mb M) pc = .ok (.invokestatic idx, 3)) : m_biP l D cA b ex sc M pc 4 := by
  intro p e R s m args below meth c H locs cells slots Q lsC st t w w1 hbd hsz hH hS hok h hR1 hR2 hR3 hR4 k
  obtain ⟨hx, hb, hr, hml, hts, hown, hnm, hlocks, htab, hKn⟩ := hbd
  rcases m_bi_s h with ⟨z, -⟩ | ⟨z, -⟩ | ⟨z, -⟩ | ⟨z, -⟩ | ⟨-, y, x, r, rfl, hcat, rfl, rfl⟩
  · cases z
  · cases z
  · cases z
  · cases z
  · rw [Nat.sub_self, Nat.sub_self] at k
    rw [Nat.sub_self] at hR1 hR2
    exact va_mmin hx hb (hml.trans hsz.symm) hown (hts _ hl) (hts _ mw_min_t) (hts _ mw_math) (hts _ mw_min_c) (by omega) (by rw [m_cat_map]; omega) hR1 hR2 hd (k H locs hH hS)
end MJB
