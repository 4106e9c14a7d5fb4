/-! members of the JDK -/
theorem dj_co_0 : decode prog_21_method_152_code 0 = .ok (.getstatic 38, 3) := by decide +kernel
theorem dj_co_3 : decode prog_21_method_152_code 3 = .ok (.ifCond .eq 10, 3) := by decide +kernel
theorem dj_co_6 : decode prog_21_method_152_code 6 = .ok (.aload_n 0, 1) := by decide +kernel
theorem dj_co_7 : decode prog_21_method_152_code 7 = .ok (.getfield 15, 3) := by decide +kernel
theorem dj_co_10 : decode prog_21_method_152_code 10 = .ok (.goto 4, 3) := by decide +kernel
theorem dj_co_14 : decode prog_21_method_152_code 14 = .ok (.ireturn, 1) := by decide +kernel
theorem dj_la_0 : decode prog_21_method_154_code 0 = .ok (.getstatic 38, 3) := by decide +kernel
theorem dj_la_3 : decode prog_21_method_154_code 3 = .ok (.ifCond .eq 14, 3) := by decide +kernel
theorem dj_la_6 : decode prog_21_method_154_code 6 = .ok (.aload_n 0, 1) := by decide +kernel
theorem dj_la_7 : decode prog_21_method_154_code 7 = .ok (.getfield 15, 3) := by decide +kernel
theorem dj_la_10 : decode prog_21_method_154_code 10 = .ok (.ifCond .ne 7, 3) := by decide +kernel
theorem dj_la_13 : decode prog_21_method_154_code 13 = .ok (.iconst 1, 1) := by decide +kernel
theorem dj_la_14 : decode prog_21_method_154_code 14 = .ok (.goto 4, 3) := by decide +kernel
theorem dj_la_18 : decode prog_21_method_154_code 18 = .ok (.ireturn, 1) := by decide +kernel
theorem dj_pr_0 : decode prog_28_method_11_code 0 = .ok (.iload_n 0, 1) := by decide +kernel
theorem dj_pr_1 : decode prog_28_method_11_code 1 = .ok (.ifCond .lt 8, 3) := by decide +kernel
theorem dj_pr_4 : decode prog_28_method_11_code 4 = .ok (.iload_n 0, 1) := by decide +kernel
theorem dj_pr_5 : decode prog_28_method_11_code 5 = .ok (.iload_n 1, 1) := by decide +kernel
theorem dj_pr_6 : decode prog_28_method_11_code 6 = .ok (.if_icmp .lt 10, 3) := by decide +kernel
theorem dj_pr_16 : decode prog_28_method_11_code 16 = .ok (.iload_n 0, 1) := by decide +kernel
theorem dj_pr_17 : decode prog_28_method_11_code 17 = .ok (.ireturn, 1) := by decide +kernel
theorem dj_ck_0 : decode prog_21_method_155_code 0 = .ok (.iload_n 0, 1) := by decide +kernel
theorem dj_ck_1 : decode prog_21_method_155_code 1 = .ok (.iload_n 1, 1) := by decide +kernel
theorem dj_ck_2 : decode prog_21_method_155_code 2 = .ok (.getstatic 1053, 3) := by decide +kernel
theorem dj_ck_5 : decode prog_21_method_155_code 5 = .ok (.invokestatic 1059, 3) := by decide +kernel
theorem dj_ck_8 : decode prog_21_method_155_code 8 = .ok (.pop, 1) := by decide +kernel
theorem dj_ck_9 : decode prog_21_method_155_code 9 = .ok (.return_, 1) := by decide +kernel
theorem dj_ln_0 : decode prog_21_method_54_code 0 = .ok (.aload_n 0, 1) := by decide +kernel
theorem dj_ln_1 : decode prog_21_method_54_code 1 = .ok (.getfield 9, 3) := by decide +kernel
theorem dj_ln_4 : decode prog_21_method_54_code 4 = .ok (.arraylength, 1) := by decide +kernel
theorem dj_ln_5 : decode prog_21_method_54_code 5 = .ok (.aload_n 0, 1) := by decide +kernel
theorem dj_ln_6 : decode prog_21_method_54_code 6 = .ok (.invokevirtual 335, 3) := by decide +kernel
theorem dj_ln_9 : decode prog_21_method_54_code 9 = .ok (.ishr, 1) := by decide +kernel
theorem dj_ln_10 : decode prog_21_method_54_code 10 = .ok (.ireturn, 1) := by decide +kernel
theorem dj_lc_0 : decode prog_22_method_2_code 0 = .ok (.iload_n 1, 1) := by decide +kernel
theorem dj_lc_1 : decode prog_22_method_2_code 1 = .ok (.aload_n 0, 1) := by decide +kernel
theorem dj_lc_2 : decode prog_22_method_2_code 2 = .ok (.arraylength, 1) := by decide +kernel
theorem dj_lc_3 : decode prog_22_method_2_code 3 = .ok (.invokestatic 9, 3) := by decide +kernel
theorem dj_lc_6 : decode prog_22_method_2_code 6 = .ok (.aload_n 0, 1) := by decide +kernel
theorem dj_lc_7 : decode prog_22_method_2_code 7 = .ok (.iload_n 1, 1) := by decide +kernel
theorem dj_lc_8 : decode prog_22_method_2_code 8 = .ok (.baload, 1) := by decide +kernel
theorem dj_lc_9 : decode prog_22_method_2_code 9 = .ok (.sipush 255, 3) := by decide +kernel
theorem dj_lc_12 : decode prog_22_method_2_code 12 = .ok (.iand, 1) := by decide +kernel
theorem dj_lc_13 : decode prog_22_method_2_code 13 = .ok (.i2c, 1) := by decide +kernel
theorem dj_lc_14 : decode prog_22_method_2_code 14 = .ok (.ireturn, 1) := by decide +kernel
theorem dj_ch_0 : decode prog_21_method_56_code 0 = .ok (.aload_n 0, 1) := by decide +kernel
theorem dj_ch_1 : decode prog_21_method_56_code 1 = .ok (.invokevirtual 492, 3) := by decide +kernel
theorem dj_ch_4 : decode prog_21_method_56_code 4 = .ok (.ifCond .eq 12, 3) := by decide +kernel
theorem dj_ch_7 : decode prog_21_method_56_code 7 = .ok (.aload_n 0, 1) := by decide +kernel
theorem dj_ch_8 : decode prog_21_method_56_code 8 = .ok (.getfield 9, 3) := by decide +kernel
theorem dj_ch_11 : decode prog_21_method_56_code 11 = .ok (.iload_n 1, 1) := by decide +kernel
theorem dj_ch_12 : decode prog_21_method_56_code 12 = .ok (.invokestatic 495, 3) := by decide +kernel
theorem dj_ch_15 : decode prog_21_method_56_code 15 = .ok (.ireturn, 1) := by decide +kernel
theorem dj_cp_0 : decode prog_26_method_123_code 0 = .ok (.iload_n 1, 1) := by decide +kernel
theorem dj_cp_1 : decode prog_26_method_123_code 1 = .ok (.aload_n 0, 1) := by decide +kernel
theorem dj_cp_2 : decode prog_26_method_123_code 2 = .ok (.arraylength, 1) := by decide +kernel
theorem dj_cp_3 : decode prog_26_method_123_code 3 = .ok (.if_icmp .ne 11, 3) := by decide +kernel
theorem dj_cp_14 : decode prog_26_method_123_code 14 = .ok (.iload_n 1, 1) := by decide +kernel
theorem dj_cp_15 : decode prog_26_method_123_code 15 = .ok (.newarray .int, 2) := by decide +kernel
theorem dj_cp_17 : decode prog_26_method_123_code 17 = .ok (.astore_n 2, 1) := by decide +kernel
theorem dj_cp_18 : decode prog_26_method_123_code 18 = .ok (.aload_n 0, 1) := by decide +kernel
theorem dj_cp_19 : decode prog_26_method_123_code 19 = .ok (.iconst 0, 1) := by decide +kernel
theorem dj_cp_20 : decode prog_26_method_123_code 20 = .ok (.aload_n 2, 1) := by decide +kernel
theorem dj_cp_21 : decode prog_26_method_123_code 21 = .ok (.iconst 0, 1) := by decide +kernel
theorem dj_cp_22 : decode prog_26_method_123_code 22 = .ok (.aload_n 0, 1) := by decide +kernel
theorem dj_cp_23 : decode prog_26_method_123_code 23 = .ok (.arraylength, 1) := by decide +kernel
theorem dj_cp_24 : decode prog_26_method_123_code 24 = .ok (.iload_n 1, 1) := by decide +kernel
theorem dj_cp_25 : decode prog_26_method_123_code 25 = .ok (.invokestatic 304, 3) := by decide +kernel
theorem dj_cp_28 : decode prog_26_method_123_code 28 = .ok (.invokestatic 150, 3) := by decide +kernel
theorem dj_cp_31 : decode prog_26_method_123_code 31 = .ok (.aload_n 2, 1) := by decide +kernel
theorem dj_cp_32 : decode prog_26_method_123_code 32 = .ok (.areturn, 1) := by decide +kernel
def mj_co : mM := (⟨"java/lang/String", "coder", "()B"⟩, prog_21_method_152_code, 1, some .byte, (fun _ => none), [])
theorem mj_co_k : m_kB mj_co 0 := ⟨m_is_s (i := 1129) (by decide +kernel), m_is_s (i := 156) (by decide +kernel), ⟨by decide +kernel, by decide +kernel, by decide +kernel⟩, by decide +kernel, by decide +kernel, rfl⟩
def mj_la : mM := (⟨"java/lang/String", "isLatin1", "()Z"⟩, prog_21_method_154_code, 1, some .boolean, (fun _ => none), [])
theorem mj_la_k : m_kB mj_la 0 := ⟨m_is_s (i := 1139) (by decide +kernel), m_is_s (i := 156) (by decide +kernel), ⟨by decide +kernel, by decide +kernel, by decide +kernel⟩, by decide +kernel, by decide +kernel, rfl⟩
def mj_pr : mM := (⟨"jdk/internal/util/Preconditions", "checkIndex", "(IILjava/util/function/BiFunction;)I"⟩, prog_28_method_11_code, 3, some .int, (fun _ => none), [])
theorem mj_pr_k : m_kB mj_pr 3 := ⟨m_is_s (i := 1150) (by decide +kernel), m_is_s (i := 158) (by decide +kernel), ⟨by decide +kernel, by decide +kernel, by decide +kernel⟩, by decide +kernel, by decide +kernel, rfl⟩
def mj_ck : mM := (⟨"java/lang/String", "checkIndex", "(II)V"⟩, prog_21_method_155_code, 2, none, (fun _ => none), [])
theorem mj_ck_k : m_kB mj_ck 2 := ⟨m_is_s (i := 1145) (by decide +kernel), m_is_s (i := 156) (by decide +kernel), ⟨by decide +kernel, by decide +kernel, by decide +kernel⟩, by decide +kernel, by decide +kernel, rfl⟩
def mj_ln : mM := (⟨"java/lang/String", "length", "()I"⟩, prog_21_method_54_code, 1, some .int, (fun _ => none), [])
theorem mj_ln_k : m_kB mj_ln 0 := ⟨m_is_s (i := 1125) (by decide +kernel), m_is_s (i := 156) (by decide +kernel), ⟨by decide +kernel, by decide +kernel, by decide +kernel⟩, by decide +kernel, by decide +kernel, rfl⟩
def mj_lc : mM := (⟨"java/lang/StringLatin1", "charAt", "([BI)C"⟩, prog_22_method_2_code, 2, some .char, (fun _ => none), [])
theorem mj_lc_k : m_kB mj_lc 2 := ⟨m_is_s (i := 1142) (by decide +kernel), m_is_s (i := 157) (by decide +kernel), ⟨by decide +kernel, by decide +kernel, by decide +kernel⟩, by decide +kernel, by decide +kernel, rfl⟩
def mj_ch : mM := (⟨"java/lang/String", "charAt", "(I)C"⟩, prog_21_method_56_code, 2, some .char, (fun _ => none), [])
theorem mj_ch_k : m_kB mj_ch 1 := ⟨m_is_s (i := 1135) (by decide +kernel), m_is_s (i := 156) (by decide +kernel), ⟨by decide +kernel, by decide +kernel, by decide +kernel⟩, by decide +kernel, by decide +kernel, rfl⟩
def mj_cp : mM := (⟨"java/util/Arrays", "copyOf", "([II)[I"⟩, prog_26_method_123_code, 3, some (.array .int), (fun _ => none), [])
theorem mj_cp_k : m_kB mj_cp 2 := ⟨m_is_s (i := 802) (by decide +kernel), m_is_s (i := 148) (by decide +kernel), ⟨by decide +kernel, by decide +kernel, by decide +kernel⟩, by decide +kernel, by decide +kernel, rfl⟩
theorem mw_f38 : Cond.fieldLink "java/lang/String" 38 "java/lang/String" "COMPACT_STRINGS" "Z" ∈ m_tbl := m_is_s (i := 1130) (by decide +kernel)
theorem mw_f15 : Cond.fieldLink "java/lang/String" 15 "java/lang/String" "coder" "B" ∈ m_tbl := m_is_s (i := 2210) (by decide +kernel)
theorem mw_f9 : Cond.fieldLink "java/lang/String" 9 "java/lang/String" "value" "[B" ∈ m_tbl := m_is_s (i := 2209) (by decide +kernel)
theorem mw_f1053 : Cond.fieldLink "java/lang/String" 1053 "jdk/internal/util/Preconditions" "SIOOBE_FORMATTER" "Ljava/util/function/BiFunction;" ∈ m_tbl := m_is_s (i := 1146) (by decide +kernel)
theorem mw_co_i : Cond.instanceMethod (m_My mj_co) ∈ m_tbl := m_is_s (i := 1127) (by decide +kernel)
theorem mw_co_s : Cond.selects (m_My mj_co).cls (m_My mj_co) (m_My mj_co) ∈ m_tbl := m_is_s (i := 1128) (by decide +kernel)
theorem mw_co_l : Cond.methodLink "java/lang/String" 335 (m_My mj_co) ∈ m_tbl := m_is_s (i := 1126) (by decide +kernel)
theorem mw_la_i : Cond.instanceMethod (m_My mj_la) ∈ m_tbl := m_is_s (i := 1137) (by decide +kernel)
theorem mw_la_s : Cond.selects (m_My mj_la).cls (m_My mj_la) (m_My mj_la) ∈ m_tbl := m_is_s (i := 1138) (by decide +kernel)
theorem mw_la_l : Cond.methodLink "java/lang/String" 492 (m_My mj_la) ∈ m_tbl := m_is_s (i := 1136) (by decide +kernel)
theorem mw_ln_i : Cond.instanceMethod (m_My mj_ln) ∈ m_tbl := m_is_s (i := 1123) (by decide +kernel)
theorem mw_ln_s : Cond.selects (m_My mj_ln).cls (m_My mj_ln) (m_My mj_ln) ∈ m_tbl := m_is_s (i := 1124) (by decide +kernel)
theorem mw_ch_i : Cond.instanceMethod (m_My mj_ch) ∈ m_tbl := m_is_s (i := 1133) (by decide +kernel)
theorem mw_ch_s : Cond.selects (m_My mj_ch).cls (m_My mj_ch) (m_My mj_ch) ∈ m_tbl := m_is_s (i := 1134) (by decide +kernel)
theorem mw_pr_t : Cond.static (m_My mj_pr) ∈ m_tbl := m_is_s (i := 1149) (by decide +kernel)
theorem mw_pr_l : Cond.methodLink "java/lang/String" 1059 (m_My mj_pr) ∈ m_tbl := m_is_s (i := 1148) (by decide +kernel)
theorem mw_ck_t : Cond.static (m_My mj_ck) ∈ m_tbl := m_is_s (i := 1144) (by decide +kernel)
theorem mw_ck_l : Cond.methodLink "java/lang/StringLatin1" 9 (m_My mj_ck) ∈ m_tbl := m_is_s (i := 1143) (by decide +kernel)
theorem mw_lc_t : Cond.static (m_My mj_lc) ∈ m_tbl := m_is_s (i := 1141) (by decide +kernel)
theorem mw_lc_l : Cond.methodLink "java/lang/String" 495 (m_My mj_lc) ∈ m_tbl := m_is_s (i := 1140) (by decide +kernel)
theorem mw_cp_t : Cond.static (m_My mj_cp) ∈ m_tbl := m_is_s (i := 801) (by decide +kernel)
theorem mw_min_l : Cond.methodLink "java/util/Arrays" 304 Lib.Math.min.name ∈ m_tbl := m_is_s (i := 810) (by decide +kernel)
theorem mw_min_t : Cond.static Lib.Math.min.name ∈ m_tbl := m_is_s (i := 719) (by decide +kernel)
theorem mw_min_c : Cond.code Lib.Math.min.name Lib.Math.min.code 2 (some .int) ∈ m_tbl := m_is_s (i := 720) (by decide +kernel)
theorem mw_max_t : Cond.static Lib.Math.max.name ∈ m_tbl := m_is_s (i := 592) (by decide +kernel)
theorem mw_max_c : Cond.code Lib.Math.max.name Lib.Math.max.code 2 (some .int) ∈ m_tbl := m_is_s (i := 593) (by decide +kernel)
theorem mw_math : Cond.initialized "java/lang/Math" ∈ m_tbl := m_is_s (i := 149) (by decide +kernel)
theorem mw_ac_l : Cond.methodLink "java/util/Arrays" 150 arraycopyName ∈ m_tbl := m_is_s (i := 811) (by decide +kernel)
theorem mw_ac_t : Cond.static arraycopyName ∈ m_tbl := m_is_s (i := 812) (by decide +kernel)
theorem mw_ac_n : Cond.native arraycopyName ∈ m_tbl := m_is_s (i := 813) (by decide +kernel)
theorem mw_sys : Cond.initialized "java/lang/System" ∈ m_tbl := m_is_s (i := 162) (by decide +kernel)
theorem m_i_nn {z : Int32} (h : ¬ z < 0) : z.toInt = (z.toNatClampNeg : Int) := by
  have h0 : (0 : Int) ≤ z.toInt := by
    have := Int32.not_lt.mp h
    simpa using Int32.le_iff_toInt_le.mp this
  show z.toInt = ((z.toInt.toNat : Nat) : Int)
  omega
theorem m_ofN {N : Nat} (h : N < 60000) : (Int32.ofNat N).toInt = (N : Int) ∧ (Int32.ofNat N).toNatClampNeg = N ∧ ¬ Int32.ofNat N < 0 := by
  have e : (Int32.ofNat N).toInt = (N : Int) := Int32.toInt_ofNat_of_lt (by omega)
  refine ⟨e, Int32.toNatClampNeg_ofNat_of_lt (by omega), fun q => ?_⟩
  rw [Int32.lt_iff_toInt_lt, e] at q
  have : (N : Int) < 0 := q
  omega
theorem m_min_n {n : Int32} {N : Nat} (h0 : ¬ n < 0) (hN : N < 60000) : ¬ (if n < Int32.ofNat N then n else Int32.ofNat N) < 0 ∧ (if n < Int32.ofNat N then n else Int32.ofNat N).toNatClampNeg = min n.toNatClampNeg N := by
  obtain ⟨e1, e2, e3⟩ := m_ofN hN
  have e4 := m_i_nn h0
  by_cases c : n < Int32.ofNat N
  · rw [if_pos c]
    rw [Int32.lt_iff_toInt_lt, e1, e4] at c
    exact ⟨h0, by omega⟩
  · rw [if_neg c]
    rw [Int32.lt_iff_toInt_lt, e1, e4] at c
    exact ⟨e3, by rw [e2]; omega⟩
theorem m_sh0 (x : Int32) : x >>> ((0 : Int32) &&& 31) = x := by
  rw [show ((0 : Int32) &&& 31) = 0 by decide]
  exact Int32.shiftRight_zero
theorem m_z0 : (0 : Int32).toNatClampNeg = 0 := by decide
theorem m_chr : ∀ n, n < 128 → (((Int32.ofNat n) &&& 255).toUInt32 % 65536).toInt32 = Int32.ofNat n := by decide +kernel
theorem m_nch : ∀ n, n < 128 → narrow .char (.int (Int32.ofNat n)) = .int (Int32.ofNat n) := by decide +kernel
theorem m_asc : ∀ q ∈ m_strs, q.2.2.2.length < 60000 ∧ ∀ x ∈ q.2.2.2, x < 128 := by decide +kernel
theorem m_byt {k j : Nat} {q : String × Nat × String × List Nat} (h : m_strs[k]? = some q) : (m_byts.getD k []).getD j 0 = Int32.ofNat (q.2.2.2.getD j 0) := by
  have e : m_byts.getD k [] = q.2.2.2.map Int32.ofNat := by
    unfold m_byts
    rw [List.getD_eq_getElem?_getD, List.getElem?_map, h]
    rfl
  rw [e, List.getD_eq_getElem?_getD, List.getD_eq_getElem?_getD, List.getElem?_map]
  cases q.2.2.2[j]? <;> rfl
theorem m_len_k {k : Nat} {q : String × Nat × String × List Nat} (h : m_strs[k]? = some q) : m_lens.getD k 0 = q.2.2.2.length := by
  unfold m_lens
  rw [List.getD_eq_getElem?_getD, List.getElem?_map, h]
  rfl
theorem m_asc_k {k j : Nat} {q : String × Nat × String × List Nat} (h : m_strs[k]? = some q) : q.2.2.2.getD j 0 < 128 := by
  have h1 := (m_asc q (List.mem_of_getElem? h)).2
  rw [List.getD_eq_getElem?_getD]
  cases hq : q.2.2.2[j]? with
  | none => decide
  | some x => exact h1 x (List.mem_of_getElem? hq)
/-- what a member's call needs -/
def mj_P (D : va_G) (cA : Nat → Nat) (b : Nat) (ex : Nat → Nat) (sc : mS) (As : List Value) (w : mW) (X : State → Prop) : Array Value → State → Prop := va_Pc As (fun U => m_H b ex D cA w U.heap ∧ m_Kn D cA b ex sc U ∧ X U)
def mj_rm (f c n lo : Nat) : Room := { frames := f, cells := c, slots := n, locals := lo }
def mj_T : State → Prop := fun _ => True
section MJ
variable {l : Launch} {D : va_G} {cA : Nat → Nat} {b : Nat} {ex : Nat → Nat} {sc : mS}
theorem mj_blind {As : List Value} {w : mW} {X : State → Prop} (hX : ∀ (U : State) (g : JFrame) (mk : MethodId) (a : Array Value), X U → X (U.calling g mk a)) : FrameBlind (mj_P D cA b ex sc As w X) := by
  intro a U g mk h
  obtain ⟨h1, h2, h3, h4⟩ := h
  exact ⟨h1, h2, m_Kn_to (locs := []) (State.WarmedH.refl U) va_S.rf h3, hX U g mk a h4⟩
theorem mj_met {Mj : mM} {n : Nat} (kB : m_kB Mj n) {rm : Room} {As : List Value} {w w1 : mW} {X : State → Prop} {v : Option Value} {mc ms : Nat} (hlen : (lg_sl As).length ≤ m_Ml Mj)
    (body : ∀ (p : Program) (e : Env) (s : State) (m : MethodId) (below : List Frame) (meth : Method) (c : Code) (ls : Array Slot), p.tables.exec = Jvm.exec → c.code = m_Mb Mj → meth.sig.returnType = m_Mr Mj → c.maxLocals = m_Ml Mj → (∀ w ∈ m_tbl, w.before As.toArray s = true) → s.vm.findClass (m_My Mj).cls = some m.cls → meth.locks = false →
      m_H b ex D cA w s.heap → m_Kn D cA b ex sc s → X s → lv_has ls (m_Ml Mj) (lv_args 0 As) →
      W p l e rm s m As.toArray below meth c s.heap [] 0 0 (MQ below (m_Qc b ex D cA (.inl v) w1) As.toArray s mc ms (m_A b)) (F0 m 0 ls [])) :
    Met l (m_My Mj) (m_ws Mj) rm (mj_P D cA b ex sc As w X) (m_Qc b ex D cA (.inl v) w1) mc ms (m_A b) := by
  obtain ⟨k1, k2, k3, k4, k5, k6⟩ := kB
  refine Met.ofW (cc := m_Mb Mj) (maxL := m_Ml Mj) (ret := m_Mr Mj) k4 rfl ?_
  intro p e s m args' below meth c s₁ B hml hPc
  obtain ⟨rfl, hH, hKn, hX⟩ := hPc
  have hts := atoms_spec (ws := m_ws Mj) B.pre
  rw [lg_entry_eq]
  exact body p e s m below meth c _ B.exec B.bytes B.returns hml (fun w hw => hts w (List.mem_cons_of_mem _ hw)) (findClass_of_methodNamed B.named) B.notSynchronized hH hKn hX (lv_entry As hlen)
section MJC
variable {p : Program} {e : Env} {R : Room} {s : State} {m : MethodId} {args : Array Value} {below : List Frame} {meth : Method} {c : Code} {H : Heap} {locs : List Loc} {cells slots : Nat} {Q : State → Prop} {pc : Nat} {lsC : Array Slot}
theorem mj_ret {v : Option Value} {w1 : mW} {st0 rest : List Value} {a : Array Value} {mc ms : Nat} (hrun : va_Run p l e R s m args below meth c H locs cells slots mc ms (F0 m pc lsC st0) rest (m_Qc b ex D cA (.inl v) w1 a) (m_A b)) (hS : va_S (m_A b) s.heap H locs)
    (k : ∀ (H1 : Heap) (locs1 : List Loc), m_H b ex D cA w1 H1 → va_S (m_A b) s.heap H1 locs1 → W p l e R s m args below meth c H1 locs1 (cells + mc) (slots + ms) Q (F0 m (pc + 3) lsC ((v.map (m_cv b ex)).toList ++ rest))) : W p l e R s m args below meth c H locs cells slots Q (F0 m pc lsC st0) := by
  intro T hT X
  obtain ⟨v1, st₀, t, T', L, e0, X', hL, e1, e2, hQ, st⟩ := hrun T hT X
  obtain ⟨⟨v0, hv, hv1⟩, hH1, hF⟩ := hQ
  cases hv
  cases hv1
  obtain ⟨-, -, k3⟩ := vx_keep e0 e1 hS (fun q _ h => h) (fun q h => h) hL hF
  obtain ⟨tt, a1, b1⟩ := k T'.heap (locs ++ L) (by rw [e1]; exact hH1) k3 T' rfl X'
  exact ⟨tt, st tt a1, b1⟩
theorem mj_S {Mj : mM} {n nL idx mc ms : Nat} {own : String} {cc : ByteArray} {As rest : List Value} {w w1 : mW} {v : Option Value} {rm : Room} {X : State → Prop} (hx : p.tables.exec = Jvm.exec) (hb : c.code = cc) (hml : c.maxLocals = nL) (hts : ∀ w ∈ m_tbl, w.before args s = true) (hown : s.vm.findClass own = some m.cls) (hKn : m_Kn D cA b ex sc s) (hH : m_H b ex D cA w H) (hS : va_S (m_A b) s.heap H locs) (hsz : lsC.size = nL)
    (kB : m_kB Mj n) (hl : Cond.methodLink own idx (m_My Mj) ∈ m_tbl) (hst : Cond.static (m_My Mj) ∈ m_tbl) (hXb : ∀ (U : State) (g : JFrame) (mk : MethodId) (a : Array Value), X U → X (U.calling g mk a)) (hX : ∀ U : State, U.heap = H → s.WarmedH U.vm → X U)
    (hM : Met l (m_My Mj) (m_ws Mj) rm (mj_P D cA b ex sc As w X) (m_Qc b ex D cA (.inl v) w1) mc ms (m_A b)) (hn : As.length = n) (hcat : (rest.map fun v => v.category).sum ≤ 8) (hr1 : rm.frames + 1 ≤ R.frames) (hr2 : 8 + (m_Ml Mj + 11) + rm.locals ≤ R.locals) (hc : rm.cells = mc) (hs : rm.slots = ms) (hf : cells + mc ≤ R.cells ∧ slots + ms ≤ R.slots) (hd : decode cc pc = .ok (.invokestatic idx, 3))
    (k : ∀ (H1 : Heap) (locs1 : List Loc), m_H b ex D cA w1 H1 → va_S (m_A b) s.heap H1 locs1 → W p l e R s m args below meth c H1 locs1 (cells + mc) (slots + ms) Q (F0 m (pc + 3) lsC ((v.map (m_cv b ex)).toList ++ rest))) : W p l e R s m args below meth c H locs cells slots Q (F0 m pc lsC (As.reverse ++ rest)) := by
  obtain ⟨k1, k2, k3, k4, k5, k6⟩ := kB
  exact mj_ret (va_runS (Ts := m_tbl) (bytes := m_Mb Mj) (maxL := m_Ml Mj) (ret := m_Mr Mj) (n := n) ⟨hx, hb, hml, hown, hts⟩ hM ⟨callB_of n hts (m_goodIn k1) rfl hc hs (hts _ k2) (hts _ hl) k3 ⟨hr1, hr2⟩, hts _ hst⟩ ⟨mj_blind hXb, fun U hU hW => ⟨rfl, by rw [hU]; exact hH, m_Kn_to hW (by rw [hU]; exact hS) hKn, hX U hU hW⟩⟩ rfl hn hsz rfl (by show 2 * 0 + _ ≤ 8; omega) hd hf) hS k
theorem mj_V {Mj : mM} {n nL idx mc ms q0 : Nat} {own : String} {cc : ByteArray} {As rest : List Value} {w w1 : mW} {v : Option Value} {rm : Room} {X : State → Prop} (hx : p.tables.exec = Jvm.exec) (hb : c.code = cc) (hml : c.maxLocals = nL) (hts : ∀ w ∈ m_tbl, w.before args s = true) (hown : s.vm.findClass own = some m.cls) (hKn : m_Kn D cA b ex sc s) (hH : m_H b ex D cA w H) (hS : va_S (m_A b) s.heap H locs) (hsz : lsC.size = nL)
    (kB : m_kB Mj n) (hl : Cond.methodLink own idx (m_My Mj) ∈ m_tbl) (hin : Cond.instanceMethod (m_My Mj) ∈ m_tbl) (hse : Cond.selects (m_My Mj).cls (m_My Mj) (m_My Mj) ∈ m_tbl) (hrv : ∃ cellB : Cell, H[q0]? = some cellB ∧ cellB.vm.isStatics = false ∧ s.vm.findClass (m_My Mj).cls = some cellB.cls) (hXb : ∀ (U : State) (g : JFrame) (mk : MethodId) (a : Array Value), X U → X (U.calling g mk a)) (hX : ∀ U : State, U.heap = H → s.WarmedH U.vm → X U)
    (hM : Met l (m_My Mj) (m_ws Mj) rm (mj_P D cA b ex sc (.ref q0 :: As) w X) (m_Qc b ex D cA (.inl v) w1) mc ms (m_A b)) (hn : As.length = n) (hcat : (rest.map fun v => v.category).sum ≤ 8) (hr1 : rm.frames + 1 ≤ R.frames) (hr2 : 8 + (m_Ml Mj + 11) + rm.locals ≤ R.locals) (hc : rm.cells = mc) (hs : rm.slots = ms) (hf : cells + mc ≤ R.cells ∧ slots + ms ≤ R.slots) (hd : decode cc pc = .ok (.invokevirtual idx, 3))
    (k : ∀ (H1 : Heap) (locs1 : List Loc), m_H b ex D cA w1 H1 → va_S (m_A b) s.heap H1 locs1 → W p l e R s m args below meth c H1 locs1 (cells + mc) (slots + ms) Q (F0 m (pc + 3) lsC ((v.map (m_cv b ex)).toList ++ rest))) : W p l e R s m args below meth c H locs cells slots Q (F0 m pc lsC (As.reverse ++ .ref q0 :: rest)) := by
  obtain ⟨k1, k2, k3, k4, k5, k6⟩ := kB
  exact mj_ret (va_runV (Ts := m_tbl) (C := (m_My Mj).cls) (bytes := m_Mb Mj) (maxL := m_Ml Mj) (ret := m_Mr Mj) (n := n) ⟨hx, hb, hml, hown, hts⟩ hM ⟨callB_of n hts (m_goodIn k1) rfl hc hs (hts _ k2) (hts _ hl) k3 ⟨hr1, hr2⟩, hts _ hin, hts _ hse⟩ ⟨mj_blind hXb, hrv, fun U hU hW => ⟨rfl, by rw [hU]; exact hH, m_Kn_to hW (by rw [hU]; exact hS) hKn, hX U hU hW⟩⟩ rfl hn hsz rfl (by show 2 * 0 + _ ≤ 8; omega) hd hf) hS k
end MJC
/-- the text k's own address -/
abbrev mj_s (ex : Nat → Nat) (k : Nat) : Nat := ex (32 * (k + 1) + 25)
theorem mj_co_M {k : Nat} {w : mW} (hk : k < m_strs.length) : Met l (m_My mj_co) (m_ws mj_co) (mj_rm 1 0 0 40) (mj_P D cA b ex sc [.ref (mj_s ex k)] w mj_T) (m_Qc b ex D cA (.inl (some (.int 0))) w) 0 0 (m_A b) := by
  refine mj_met mj_co_k (by show 1 ≤ 1; omega) ?_
  intro p e s m below meth c ls hx hb hr hml hts hown hlocks hH hKn hX hL
  obtain ⟨av, hS6⟩ := hKn.2.2.2.2.1.2.1
  obtain ⟨o1, o2, o3, o4⟩ := hS6 k hk
  refine va_gets hx hb (own := "java/lang/String") (ref := "java/lang/String") hKn.2.2.2.2.1.2.2.1 va_S.rf hown (hts _ mw_f38) (fun _ h => h) dj_co_0 ?_
  refine lv_if_eq hx hb (tgt := 13) dj_co_3 (by decide) (fun h => absurd h (by decide)) (fun _ => ?_)
  refine lv_aload_n hx hb (x := mj_s ex k) dj_co_6 rfl (lv_at hL 0 rfl) ?_
  refine vk_getf hx hb (own := "java/lang/String") (ref := "java/lang/String") o2 va_S.rf hown (hts _ mw_f15) (fun _ h => h) dj_co_7 ?_
  refine lv_goto hx hb (tgt := 14) dj_co_10 (by decide) ?_
  exact W.zret hx hb hr (by decide +kernel) (fun t ht _ => ⟨⟨some (.int 0), rfl, rfl⟩, by rw [ht]; exact hH, va_S.rf.F ht⟩) (fun _ h => nomatch h) dj_co_14 hlocks
theorem mj_la_M {k : Nat} {w : mW} (hk : k < m_strs.length) : Met l (m_My mj_la) (m_ws mj_la) (mj_rm 1 0 0 40) (mj_P D cA b ex sc [.ref (mj_s ex k)] w mj_T) (m_Qc b ex D cA (.inl (some (.int 1))) w) 0 0 (m_A b) := by
  refine mj_met mj_la_k (by show 1 ≤ 1; omega) ?_
  intro p e s m below meth c ls hx hb hr hml hts hown hlocks hH hKn hX hL
  obtain ⟨av, hS6⟩ := hKn.2.2.2.2.1.2.1
  obtain ⟨o1, o2, o3, o4⟩ := hS6 k hk
  refine va_gets hx hb (own := "java/lang/String") (ref := "java/lang/String") hKn.2.2.2.2.1.2.2.1 va_S.rf hown (hts _ mw_f38) (fun _ h => h) dj_la_0 ?_
  refine lv_if_eq hx hb (tgt := 17) dj_la_3 (by decide) (fun h => absurd h (by decide)) (fun _ => ?_)
  refine lv_aload_n hx hb (x := mj_s ex k) dj_la_6 rfl (lv_at hL 0 rfl) ?_
  refine vk_getf hx hb (own := "java/lang/String") (ref := "java/lang/String") o2 va_S.rf hown (hts _ mw_f15) (fun _ h => h) dj_la_7 ?_
  refine lv_if_ne hx hb (tgt := 17) dj_la_10 (by decide) (fun h => absurd rfl h) (fun _ => ?_)
  refine lv_iconst hx hb (v := 1) dj_la_13 rfl ?_
  refine lv_goto hx hb (tgt := 18) dj_la_14 (by decide) ?_
  exact W.zret hx hb hr (by decide +kernel) (fun t ht _ => ⟨⟨some (.int 1), rfl, rfl⟩, by rw [ht]; exact hH, va_S.rf.F ht⟩) (fun _ h => nomatch h) dj_la_18 hlocks
theorem mj_pr_M {i n : Int32} {z : Value} {w : mW} (hz : z.category = 1) (h0 : ¬ i < 0) (h1 : i < n) : Met l (m_My mj_pr) (m_ws mj_pr) (mj_rm 1 0 0 40) (mj_P D cA b ex sc [.int i, .int n, z] w mj_T) (m_Qc b ex D cA (.inl (some (.int i))) w) 0 0 (m_A b) := by
  refine mj_met mj_pr_k (by
    rw [m_lg_sl _ (fun v hv => by
      simp only [List.mem_cons, List.not_mem_nil, or_false] at hv
      rcases hv with rfl | rfl | rfl <;> first | rfl | exact hz)]
    show 3 ≤ 3
    omega) ?_
  intro p e s m below meth c ls hx hb hr hml hts hown hlocks hH hKn hX hL
  refine lv_iload_n hx hb (x := i) dj_pr_0 rfl (lv_at hL 0 rfl) ?_
  refine lv_if_lt hx hb (tgt := 9) dj_pr_1 (by decide) (fun h => absurd h h0) (fun _ => ?_)
  refine lv_iload_n hx hb (x := i) dj_pr_4 rfl (lv_at hL 0 rfl) ?_
  refine lv_iload_n hx hb (x := n) dj_pr_5 rfl (lv_at hL 1 rfl) ?_
  refine lv_icmp_lt hx hb (tgt := 16) dj_pr_6 (by decide) (fun _ => ?_) (fun h => absurd h1 h)
  refine lv_iload_n hx hb (x := i) dj_pr_16 rfl (lv_at hL 0 rfl) ?_
  exact W.iret hx hb hr (fun t ht _ => ⟨⟨some (.int i), rfl, rfl⟩, by rw [ht]; exact hH, va_S.rf.F ht⟩) (fun _ h => nomatch h) dj_pr_17 hlocks
theorem mj_ck_M {i n : Int32} {w : mW} (h0 : ¬ i < 0) (h1 : i < n) : Met l (m_My mj_ck) (m_ws mj_ck) (mj_rm 2 0 0 80) (mj_P D cA b ex sc [.int i, .int n] w mj_T) (m_Qc b ex D cA (.inl none) w) 0 0 (m_A b) := by
  refine mj_met mj_ck_k (by show 2 ≤ 2; omega) ?_
  intro p e s m below meth c ls hx hb hr hml hts hown hlocks hH hKn hX hL
  refine lv_iload_n hx hb (x := i) dj_ck_0 rfl (lv_at hL 0 rfl) ?_
  refine lv_iload_n hx hb (x := n) dj_ck_1 rfl (lv_at hL 1 rfl) ?_
  have go : ∀ z : Value, z.category = 1 → va_Z "jdk/internal/util/Preconditions" "SIOOBE_FORMATTER" "Ljava/util/function/BiFunction;" z (m_A b) s s.heap → W p l e (mj_rm 2 0 0 80) s m (List.toArray [.int i, .int n]) below meth c s.heap [] 0 0 (MQ below (m_Qc b ex D cA (.inl none) w) (List.toArray [.int i, .int n]) s 0 0 (m_A b)) (F0 m 2 ls [.int n, .int i]) := by
    intro z hz hZ
    refine va_gets hx hb (own := "java/lang/String") (ref := "jdk/internal/util/Preconditions") hZ va_S.rf hown (hts _ mw_f1053) (fun _ h => h) dj_ck_2 ?_
    refine mj_S (Mj := mj_pr) (As := [.int i, .int n, z]) (rest := []) (v := some (.int i)) hx hb hml hts hown hKn hH va_S.rf hL.1 mj_pr_k mw_pr_l mw_pr_t (fun _ _ _ _ h => h) (fun _ _ _ => trivial) (mj_pr_M hz h0 h1) rfl (by decide) (by decide) (by decide) rfl rfl (by decide) dj_ck_5 (fun H1 locs1 hH1 hS1 => ?_)
    refine lv_pop hx hb dj_ck_8 rfl ?_
    exact W.vret hx hb hr (fun t ht _ => ⟨⟨none, rfl, rfl⟩, by rw [ht]; exact hH1, hS1.F ht⟩) hS1.2.2 dj_ck_9 hlocks
  rcases hKn.2.2.2.2.1.2.2.2 with hZ | ⟨t, hZ⟩
  · exact go _ rfl hZ
  · exact go _ rfl hZ
theorem mj_ln_M {k : Nat} {q : String × Nat × String × List Nat} {w : mW} (hq : m_strs[k]? = some q) : Met l (m_My mj_ln) (m_ws mj_ln) (mj_rm 2 0 0 80) (mj_P D cA b ex sc [.ref (mj_s ex k)] w mj_T) (m_Qc b ex D cA (.inl (some (.int (Int32.ofNat q.2.2.2.length)))) w) 0 0 (m_A b) := by
  refine mj_met mj_ln_k (by show 1 ≤ 1; omega) ?_
  intro p e s m below meth c ls hx hb hr hml hts hown hlocks hH hKn hX hL
  have hk : k < m_strs.length := (List.getElem?_eq_some_iff.mp hq).1
  obtain ⟨av, hS6⟩ := hKn.2.2.2.2.1.2.1
  obtain ⟨o1, o2, o3, o4⟩ := hS6 k hk
  refine lv_aload_n hx hb (x := mj_s ex k) dj_ln_0 rfl (lv_at hL 0 rfl) ?_
  refine vk_getf hx hb (own := "java/lang/String") (ref := "java/lang/String") o3 va_S.rf hown (hts _ mw_f9) (fun _ h => h) dj_ln_1 ?_
  refine va_tlen hx hb o4 va_S.rf rfl dj_ln_4 ?_
  refine lv_aload_n hx hb (x := mj_s ex k) dj_ln_5 rfl (lv_at hL 0 rfl) ?_
  refine mj_V (Mj := mj_co) (As := []) (rest := [.int (Int32.ofNat (m_lens.getD k 0))]) (v := some (.int 0)) hx hb hml hts hown hKn hH va_S.rf hL.1 mj_co_k mw_co_l mw_co_i mw_co_s (hS6.recv hk va_S.rf) (fun _ _ _ _ h => h) (fun _ _ _ => trivial) (mj_co_M hk) rfl (by show 1 ≤ 8; omega) (by decide) (by decide) rfl rfl (by decide) dj_ln_6 (fun H1 locs1 hH1 hS1 => ?_)
  refine lv_ishr hx hb dj_ln_9 ?_
  rw [m_sh0, m_len_k hq]
  exact W.iret hx hb hr (fun t ht _ => ⟨⟨some (.int (Int32.ofNat q.2.2.2.length)), rfl, rfl⟩, by rw [ht]; exact hH1, hS1.F ht⟩) hS1.2.2 dj_ln_10 hlocks
theorem mj_lc_M {k t : Nat} {i : Int32} {q : String × Nat × String × List Nat} {w : mW} (hq : m_strs[k]? = some q) (h0 : ¬ i < 0) (h1 : i.toNatClampNeg < q.2.2.2.length) : Met l (m_My mj_lc) (m_ws mj_lc) (mj_rm 3 0 0 120) (mj_P D cA b ex sc [.ref t, .int i] w (fun U => va_T .byte t (m_lens.getD k 0) (fun j => .int ((m_byts.getD k []).getD j 0)) (m_A b) U U.heap)) (m_Qc b ex D cA (.inl (some (.int (Int32.ofNat (q.2.2.2.getD i.toNatClampNeg 0))))) w) 0 0 (m_A b) := by
  refine mj_met mj_lc_k (by show 2 ≤ 2; omega) ?_
  intro p e s m below meth c ls hx hb hr hml hts hown hlocks hH hKn hX hL
  have hlt := (m_asc q (List.mem_of_getElem? hq)).1
  replace hX : va_T .byte t (m_lens.getD k 0) (fun j => .int ((m_byts.getD k []).getD j 0)) (m_A b) s s.heap := hX
  have hin : i < Int32.ofNat (m_lens.getD k 0) := by
    rw [m_len_k hq, Int32.lt_iff_toInt_lt, (m_ofN hlt).1, m_i_nn h0]
    omega
  have hv := m_asc_k (j := i.toNatClampNeg) hq
  refine lv_iload_n hx hb (x := i) dj_lc_0 rfl (lv_at hL 1 rfl) ?_
  refine lv_aload_n hx hb (x := t) dj_lc_1 rfl (lv_at hL 0 rfl) ?_
  refine va_tlen hx hb hX va_S.rf rfl dj_lc_2 ?_
  refine mj_S (Mj := mj_ck) (As := [.int i, .int (Int32.ofNat (m_lens.getD k 0))]) (rest := []) (v := none) hx hb hml hts hown hKn hH va_S.rf hL.1 mj_ck_k mw_ck_l mw_ck_t (fun _ _ _ _ h => h) (fun _ _ _ => trivial) (mj_ck_M h0 hin) rfl (by decide) (by decide) (by decide) rfl rfl (by decide) dj_lc_3 (fun H1 locs1 hH1 hS1 => ?_)
  refine lv_aload_n hx hb (x := t) dj_lc_6 rfl (lv_at hL 0 rfl) ?_
  refine lv_iload_n hx hb (x := i) dj_lc_7 rfl (lv_at hL 1 rfl) ?_
  refine va_tb hx hb hX hS1 (fun z => ?_) (v := .int (Int32.ofNat (q.2.2.2.getD i.toNatClampNeg 0))) (by show Value.int ((m_byts.getD k []).getD i.toNatClampNeg 0) = _; rw [m_byt hq]) dj_lc_8 ?_
  · rw [m_len_k hq] at z
    rcases z with z | z
    · exact h0 z
    · omega
  refine lv_sipush hx hb (v := 255) dj_lc_9 (by decide) ?_
  refine lv_iand hx hb dj_lc_12 ?_
  refine lv_i2c hx hb dj_lc_13 (m_chr _ hv) ?_
  exact W.zret hx hb hr (m_nch _ hv) (fun t ht _ => ⟨⟨some (.int (Int32.ofNat (q.2.2.2.getD i.toNatClampNeg 0))), rfl, rfl⟩, by rw [ht]; exact hH1, hS1.F ht⟩) hS1.2.2 dj_lc_14 hlocks
theorem mj_ch_M {k : Nat} {i : Int32} {q : String × Nat × String × List Nat} {w : mW} (hq : m_strs[k]? = some q) (h0 : ¬ i < 0) (h1 : i.toNatClampNeg < q.2.2.2.length) : Met l (m_My mj_ch) (m_ws mj_ch) (mj_rm 4 0 0 160) (mj_P D cA b ex sc [.ref (mj_s ex k), .int i] w mj_T) (m_Qc b ex D cA (.inl (some (.int (Int32.ofNat (q.2.2.2.getD i.toNatClampNeg 0))))) w) 0 0 (m_A b) := by
  refine mj_met mj_ch_k (by show 2 ≤ 2; omega) ?_
  intro p e s m below meth c ls hx hb hr hml hts hown hlocks hH hKn hX hL
  have hk : k < m_strs.length := (List.getElem?_eq_some_iff.mp hq).1
  have hv := m_asc_k (j := i.toNatClampNeg) hq
  obtain ⟨av, hS6⟩ := hKn.2.2.2.2.1.2.1
  obtain ⟨o1, o2, o3, o4⟩ := hS6 k hk
  refine lv_aload_n hx hb (x := mj_s ex k) dj_ch_0 rfl (lv_at hL 0 rfl) ?_
  refine mj_V (Mj := mj_la) (As := []) (rest := []) (v := some (.int 1)) hx hb hml hts hown hKn hH va_S.rf hL.1 mj_la_k mw_la_l mw_la_i mw_la_s (hS6.recv hk va_S.rf) (fun _ _ _ _ h => h) (fun _ _ _ => trivial) (mj_la_M hk) rfl (by decide) (by decide) (by decide) rfl rfl (by decide) dj_ch_1 (fun H1 locs1 hH1 hS1 => ?_)
  refine lv_if_eq hx hb (tgt := 16) dj_ch_4 (by decide) (fun h => absurd h (by decide)) (fun _ => ?_)
  refine lv_aload_n hx hb (x := mj_s ex k) dj_ch_7 rfl (lv_at hL 0 rfl) ?_
  refine vk_getf hx hb (own := "java/lang/String") (ref := "java/lang/String") o3 hS1 hown (hts _ mw_f9) (fun _ h => h) dj_ch_8 ?_
  refine lv_iload_n hx hb (x := i) dj_ch_11 rfl (lv_at hL 1 rfl) ?_
  refine mj_S (Mj := mj_lc) (X := fun U => va_T .byte (av k) (m_lens.getD k 0) (fun j => .int ((m_byts.getD k []).getD j 0)) (m_A b) U U.heap) (As := [.ref (av k), .int i]) (rest := []) (v := some (.int (Int32.ofNat (q.2.2.2.getD i.toNatClampNeg 0)))) hx hb hml hts hown hKn hH1 hS1 hL.1 mj_lc_k mw_lc_l mw_lc_t (fun U g mk a h => va_T.moved (u := U) (State.WarmedH.refl U).alike h) (fun U hU hW => by rw [hU]; exact va_T.moved hW.alike (o4.kept hS1.2.1)) (mj_lc_M hq h0 h1) rfl (by decide) (by decide) (by decide) rfl rfl (by decide) dj_ch_12 (fun H2 locs2 hH2 hS2 => ?_)
  exact W.zret hx hb hr (m_nch _ hv) (fun t ht _ => ⟨⟨some (.int (Int32.ofNat (q.2.2.2.getD i.toNatClampNeg 0))), rfl, rfl⟩, by rw [ht]; exact hH2, hS2.F ht⟩) hS2.2.2 dj_ch_15 hlocks
end MJ
