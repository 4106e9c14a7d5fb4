/-! from the entry -/
theorem m_all {i : Nat} {w : Cond} (h : m_at i m_segs = some w) : w ∈ lw_tbl := by
  obtain ⟨q, h1, h2⟩ := m_at_s _ _ _ h
  exact m_seg_in q h1 w h2
theorem m_nst_in : ∀ q ∈ m_nst, Cond.methodLinkNest "FerryHall" q.1 q.2 "FerryHall" ∈ lw_tbl := List.forall_mem_cons.mpr ⟨m_all (i := 174) (by decide +kernel), List.forall_mem_cons.mpr ⟨m_all (i := 421) (by decide +kernel), List.forall_mem_cons.mpr ⟨m_all (i := 462) (by decide +kernel), List.forall_mem_cons.mpr ⟨m_all (i := 528) (by decide +kernel), fun _ h => nomatch h⟩⟩⟩⟩
theorem m_dcl_in : ∀ y ∈ m_dcl, Cond.declares (Bundle.initS y) ∈ lw_tbl := List.forall_mem_cons.mpr ⟨m_all (i := 1026) (by decide +kernel), List.forall_mem_cons.mpr ⟨m_all (i := 1028) (by decide +kernel), List.forall_mem_cons.mpr ⟨m_all (i := 1030) (by decide +kernel), fun _ h => nomatch h⟩⟩⟩
theorem m_cst_in : ∀ y ∈ m_cst, Cond.castable y y ∈ lw_tbl := List.forall_mem_cons.mpr ⟨m_all (i := 1309) (by decide +kernel), List.forall_mem_cons.mpr ⟨m_all (i := 1024) (by decide +kernel), fun _ h => nomatch h⟩⟩
theorem m_NW_of {args : Array Value} {s : State} (hts : ∀ w ∈ lw_tbl, w.before args s = true) : m_NW s :=
  ⟨fun q hq => va_Nw.of rfl (hts _ (m_nst_in q hq)), fun y hy => va_Nw.of rfl (hts _ (m_dcl_in y hy)), fun y hy => va_Nw.of rfl (hts _ (m_cst_in y hy))⟩
def m_ins : List Nat := [355, 173, 420, 545, 288, 486, 323, 527, 461, 165, 1525]
theorem m_ins_in : ∀ (ci : Nat) (q : vw_C), vwCl[ci]? = some q → Cond.instantiable q.1 q.2.2 ∈ m_tbl := by
  intro ci q h
  have hl : ci < 11 := (List.getElem?_eq_some_iff.mp h).1
  have hall : (List.range 11).all (fun c => match vwCl[c]? with
    | some q => m_is (m_ins.getD c 0) (Cond.instantiable q.1 q.2.2)
    | none => false) = true := by decide +kernel
  have h1 := List.all_eq_true.mp hall ci (List.mem_range.mpr hl)
  rw [h] at h1
  exact m_is_s h1
theorem m_arrK {args : Array Value} {s : State} {ty : FieldType} (h : (Cond.arrayClass ty).before args s = true) : ∃ c : ClassId, ArrOfT s c ty ∧ s.vm.findClass ("[" ++ ty.toString) = some c := by
  obtain ⟨c, k, comp, f1, f2, f3⟩ := Cond.arrayClass_spec h
  exact ⟨c, fun n z => ⟨fun k h => (by cases h), k, f2, comp, f3⟩, f1⟩
theorem m_K_of {args : Array Value} {s : State} (hts : ∀ w ∈ m_tbl, w.before args s = true) : ∃ (D : va_G) (cA : Nat → Nat), va_K D vwCl (m_ta cA) s := by
  have h0 : ∀ ci : Nat, ∃ z : ClassId × (Nat → Nat), ∀ q, vwCl[ci]? = some q → u_Kn s q.1 q.2.1 q.2.2 z.1 z.2 := by
    intro ci
    cases hq : vwCl[ci]? with
    | none => exact ⟨(0, fun _ => 0), fun q h => by cases h⟩
    | some q =>
      obtain ⟨-, -, h3, -⟩ := m_cls ci q hq
      obtain ⟨cC, iS, h⟩ := u_known (ws := m_tbl) hts h3 (hts _ (m_ins_in ci q hq))
      exact ⟨(cC, iS), fun q' h' => by cases h'; exact h⟩
  obtain ⟨z, hz⟩ := Classical.axiomOfChoice h0
  obtain ⟨c0, a0, b0⟩ := m_arrK (hts _ (m_arr_ok .int (by decide)))
  obtain ⟨c1, a1, b1⟩ := m_arrK (hts _ (m_arr_ok .byte (by decide)))
  obtain ⟨c2, a2, b2⟩ := m_arrK (hts _ (m_arr_ok .boolean (by decide)))
  obtain ⟨c3, a3, b3⟩ := m_arrK (hts _ (m_arr_ok .long (by decide)))
  refine ⟨(fun ci => (z ci).1, fun ci => (z ci).2), fun k => if k = 20 then c0 else if k = 21 then c1 else if k = 22 then c2 else c3, fun ci q hq => hz ci q hq, fun k q hq => ?_⟩
  match k, hq with
  | 0, hq => cases hq; exact ⟨a0, b0⟩
  | 1, hq => cases hq; exact ⟨a1, b1⟩
  | 2, hq => cases hq; exact ⟨a2, b2⟩
  | 3, hq => cases hq; exact ⟨a3, b3⟩
  | k + 4, hq => cases hq
/-! the text constants -/
def m_nrw : List Cond := flatC (Jvm.Cond.and given_1 narrow_1)
def m_sk (k : Nat) : String × Nat × String × List Nat := m_strs.getD k ("", 0, "", [])
def m_tm (k : Nat) : Term := .string (m_sk k).1 (m_sk k).2.1
def m_nxw (k : Nat) : List Cond := [.exactly (m_tm k) "java/lang/String", .eq (.field (m_tm k) "java/lang/String" "coder" "B") (.int 0), .arrayOf (.field (m_tm k) "java/lang/String" "value" "[B") .byte, .eq (.length (.field (m_tm k) "java/lang/String" "value" "[B")) (.int (Int32.ofNat (m_lens.getD k 0)))] ++
  (List.range (m_lens.getD k 0)).map (fun j => .eq (.elem (.field (m_tm k) "java/lang/String" "value" "[B") (.int (Int32.ofNat j))) (.int ((m_byts.getD k []).getD j 0)))
def m_nof : List Nat := [35, 246, 280, 263, 309, 325, 353, 370, 409, 425, 445, 482, 500, 511, 69, 79, 106, 137, 146, 153, 161, 88, 98, 114, 123, 131, 226, 236, 177, 183, 170, 190, 198, 208, 217]
def m_sof : List Nat := [1062, 1316, 1335, 1334, 1343, 1344, 1352, 1365, 1386, 1406, 1422, 1439, 1473, 1510, 1113, 1190, 1213, 1225, 1230, 1231, 1236, 1207, 1212, 1218, 1219, 1220, 1288, 1289, 1254, 1255, 1249, 1276, 1277, 1278, 1279]
theorem m_nx_ok : (List.range 35).all (fun k => decide ((m_nrw.drop (m_nof.getD k 0)).take (4 + m_lens.getD k 0) = m_nxw k)) = true := by decide +kernel
theorem m_sx_ok : (List.range 35).all (fun k => decide (m_at (m_sof.getD k 0) m_segs = some (Cond.stringRef (m_sk k).1 (m_sk k).2.1 (m_sk k).2.2.1))) = true := by decide +kernel
theorem m_len35 : m_strs.length = 35 := by decide +kernel
theorem m_lens_ok : (List.range 35).all (fun k => decide (m_lens.getD k 0 < 2 ^ 31)) = true := by decide +kernel
theorem m_nx_in {k : Nat} (hk : k < 35) : ∀ w ∈ m_nxw k, w ∈ m_nrw := by
  have h := of_decide_eq_true (List.all_eq_true.mp m_nx_ok k (List.mem_range.mpr hk))
  intro w hw
  rw [← h] at hw
  exact List.mem_of_mem_drop (List.mem_of_mem_take hw)
theorem m_txt {args : Array Value} {s : State} {A : Nat → Prop} {k : Nat} (hs : ∀ c ∈ m_nrw, c.before args s = true) (hk : k < 35) (hA : ∀ a : Nat, a < s.heap.size → ¬ A a) :
    ∃ a t : Nat, (m_tm k).eval args s none [] s = some (.ref a) ∧ va_O "java/lang/String" a A s s.heap ∧ va_OF "java/lang/String" "coder" "B" (.int 0) a A s s.heap ∧ va_OF "java/lang/String" "value" "[B" (.ref t) a A s s.heap ∧ va_T .byte t (m_lens.getD k 0) (fun j => .int ((m_byts.getD k []).getD j 0)) A s s.heap := by
  have hx : ∀ w ∈ m_nxw k, w.before args s = true := fun w hw => hs w (m_nx_in hk w hw)
  have hN := of_decide_eq_true (List.all_eq_true.mp m_lens_ok k (List.mem_range.mpr hk))
  have hex : (Cond.exactly (m_tm k) "java/lang/String").before args s = true := hx _ (by simp [m_nxw])
  have hco : (Cond.eq (.field (m_tm k) "java/lang/String" "coder" "B") (.int 0)).before args s = true := hx _ (by simp [m_nxw])
  have har : (Cond.arrayOf (.field (m_tm k) "java/lang/String" "value" "[B") .byte).before args s = true := hx _ (by simp [m_nxw])
  have hle : (Cond.eq (.length (.field (m_tm k) "java/lang/String" "value" "[B")) (.int (Int32.ofNat (m_lens.getD k 0)))).before args s = true := hx _ (by simp [m_nxw])
  have hel : ∀ j : Nat, j < m_lens.getD k 0 → (Cond.eq (.elem (.field (m_tm k) "java/lang/String" "value" "[B") (.int (Int32.ofNat j))) (.int ((m_byts.getD k []).getD j 0))).before args s = true := fun j hj => hx _ (List.mem_append_right _ (List.mem_map.mpr ⟨j, List.mem_range.mpr hj, rfl⟩))
  obtain ⟨a, c, cA, kA, q1, -⟩ := Cond.exactly_spec (args := args) (first := s) (o := none) (s := s) (idx := []) (t := m_tm k) (cls := "java/lang/String") hex
  obtain ⟨t, ht, hT⟩ := va_Tof (f := fun j => .int ((m_byts.getD k []).getD j 0)) (A := A) hN har (va_eqt hle) (fun j hj => va_eqt (hel j hj)) hA
  exact ⟨a, t, q1, va_Oof hex q1 hA, vk_OFof q1 (va_eqt hco) hA, vk_OFof q1 ht hA, hT⟩
theorem m_sk_of {k : Nat} {q : String × Nat × String × List Nat} (h : m_strs[k]? = some q) : m_sk k = q := by
  unfold m_sk
  rw [List.getD_eq_getElem?_getD, h]
  rfl
theorem m_ST_of {args : Array Value} {s : State} {b : Nat} (hts : ∀ w ∈ lw_tbl, w.before args s = true) (hs : ∀ c ∈ m_nrw, c.before args s = true) (scr : Nat) (hb : b = s.heap.size) : ∃ ex : Nat → Nat, m_ST b ex s ∧ ∀ a : Nat, a % 32 = 24 → ex a = scr := by
  have hA : ∀ a : Nat, a < s.heap.size → ¬ m_A b a := fun a ha hq => by
    have hq2 : b ≤ a := hq
    omega
  have h0 : ∀ k : Nat, ∃ z : Nat × Nat, k < 35 → (m_tm k).eval args s none [] s = some (.ref z.1) ∧ va_O "java/lang/String" z.1 (m_A b) s s.heap ∧ va_OF "java/lang/String" "coder" "B" (.int 0) z.1 (m_A b) s s.heap ∧ va_OF "java/lang/String" "value" "[B" (.ref z.2) z.1 (m_A b) s s.heap ∧ va_T .byte z.2 (m_lens.getD k 0) (fun j => .int ((m_byts.getD k []).getD j 0)) (m_A b) s s.heap := by
    intro k
    by_cases hk : k < 35
    · obtain ⟨a, t, h⟩ := m_txt hs hk hA
      exact ⟨(a, t), fun _ => h⟩
    · exact ⟨(0, 0), fun h => absurd h hk⟩
  obtain ⟨z, hz⟩ := Classical.axiomOfChoice h0
  have hex : ∀ k : Nat, (fun a : Nat => if a % 32 = 24 then scr else (z (a / 32 - 1)).1) (32 * (k + 1) + 25) = (z k).1 := by
    intro k
    show (if (32 * (k + 1) + 25) % 32 = 24 then scr else (z ((32 * (k + 1) + 25) / 32 - 1)).1) = (z k).1
    rw [if_neg (by omega), show (32 * (k + 1) + 25) / 32 - 1 = k by omega]
  refine ⟨fun a => if a % 32 = 24 then scr else (z (a / 32 - 1)).1, ⟨fun k q hq => ?_, ⟨fun k => (z k).2, fun k hk => ?_⟩, ?_, ?_⟩, fun a ha => if_pos ha⟩
  · have hk : k < 35 := by rw [← m_len35]; exact (List.getElem?_eq_some_iff.mp hq).1
    have e := m_sk_of hq
    have hr := hts _ (m_all (of_decide_eq_true (List.all_eq_true.mp m_sx_ok k (List.mem_range.mpr hk))))
    have hev := (hz k hk).1
    unfold m_tm at hev
    rw [e] at hr hev
    rw [hex k]
    exact vk_R.of hr hev
  · rw [m_len35] at hk
    rw [hex k]
    exact (hz k hk).2
  · exact va_Zof (hts _ (m_all (i := 1131) (by decide +kernel))) (hts _ (m_all (i := 156) (by decide +kernel))) (va_eqi (hs _ (List.mem_of_getElem? (i := 6) (by decide +kernel)))) hA
  · exact va_Zqof (hts _ (m_all (i := 1147) (by decide +kernel))) (hts _ (m_all (i := 158) (by decide +kernel))) (hs _ (List.mem_of_getElem? (i := 7) (by decide +kernel))) hA
theorem m_Kn_of {args : Array Value} {s : State} {scr L : Nat} {xs : Nat → Int32} (hts : ∀ w ∈ lw_tbl, w.before args s = true) (hs : ∀ c ∈ m_nrw, c.before args s = true) (hX : va_X scr L xs s s.heap) (hb : scr < s.heap.size) : ∃ (D : va_G) (cA ex : Nat → Nat), m_Kn D cA s.heap.size ex (L, xs) s ∧ ∀ a : Nat, a % 32 = 24 → ex a = scr := by
  have hA : ∀ a : Nat, a < s.heap.size → ¬ m_A s.heap.size a := fun a ha hq => by
    have hq2 : s.heap.size ≤ a := hq
    omega
  obtain ⟨D, cA, hK⟩ := m_K_of (fun w hw => hts w (m_tbl_in w hw))
  obtain ⟨ex, hST, hex⟩ := m_ST_of hts hs scr rfl
  refine ⟨D, cA, ex, ⟨hK, ?_, ?_, fun a ha => ?_, hST, m_NW_of hts⟩, hex⟩
  · exact vx_Zqof (hts _ (m_all (i := 1049) (by decide +kernel))) (hts _ (m_all (i := 152) (by decide +kernel))) (hs _ (List.mem_of_getElem? (i := 4) (by decide +kernel))) hA
  · exact vx_Zqof (hts _ (m_all (i := 1051) (by decide +kernel))) (hts _ (m_all (i := 152) (by decide +kernel))) (hs _ (List.mem_of_getElem? (i := 5) (by decide +kernel))) hA
  · rw [hex a ha]
    exact ⟨hX, hb, hA _ hb⟩
