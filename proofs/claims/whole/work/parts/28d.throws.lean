/-! the throws of the class -/
/-- words by their places -/
def m_bx (L : List Cond) (I : List Nat) : Bool := match L, I with
  | [], _ => true
  | w :: t, i :: r => m_is i w && m_bx t r
  | _, _ => false
theorem m_bx_s : ∀ (L : List Cond) (I : List Nat), m_bx L I = true → ∀ w ∈ L, w ∈ m_tbl := by
  intro L
  induction L with
  | nil => intro I _ w hw; cases hw
  | cons a t ih =>
    intro I h w hw
    cases I with
    | nil => unfold m_bx at h; cases h
    | cons i r =>
      unfold m_bx at h
      rw [Bool.and_eq_true] at h
      rcases List.mem_cons.mp hw with rfl | q
      · exact m_is_s h.1
      · exact ih r h.2 w q
def m_qN : List Cond := (m_ownX "FerryHall" 159 "java/util/NoSuchElementException" "java/lang/RuntimeException" 13 prog_27_method_4_code ["java/lang/Exception"]).filter vx_no
def m_qI : List Cond := (m_ownX "FerryHall" 111 "java/lang/IllegalArgumentException" "java/lang/RuntimeException" 7 Bundle.six ["java/lang/Exception"]).filter vx_no
theorem m_qN_g : m_bx (m_qN.filter goodWord) [152, 1044, 1053, 1056, 1059, 1061, 1045, 1046, 170, 171, 1047, 1052, 1057, 1077, 1034, 1078, 1036, 1079, 1038, 1048, 1050, 1040, 1073, 1074, 1076, 1040, 1318, 1319, 1320, 1067, 1067, 1068, 1069, 1070, 1070, 1071, 1072, 1073, 1317, 1308, 1310, 1055, 1311, 1312, 1313, 1314, 1043, 1042, 1315] = true := by decide +kernel
theorem m_qI_g : m_bx (m_qI.filter goodWord) [152, 1044, 1053, 1056, 1059, 1061, 1045, 1046, 170, 171, 1047, 1052, 1057, 1077, 1034, 1078, 1036, 1079, 1038, 1048, 1050, 1040, 1073, 1074, 1076, 1040, 1064, 1065, 1066, 1067, 1067, 1068, 1069, 1070, 1070, 1071, 1072, 1073, 1063, 1023, 1031, 1032, 1033, 1035, 1037, 1039, 1043, 1042, 1041] = true := by decide +kernel
theorem m_qN_d : ∀ w ∈ m_qN.filter (fun w => !goodWord w), w ∈ m_dcl.map (fun y => Cond.declares (Bundle.initS y)) := by decide +kernel
theorem m_qI_d : ∀ w ∈ m_qI.filter (fun w => !goodWord w), w ∈ m_dcl.map (fun y => Cond.declares (Bundle.initS y)) := by decide +kernel
theorem m_qN_o : ∀ w ∈ Cond.classLink "FerryHall" 155 "java/util/NoSuchElementException" :: Cond.initialized "java/util/NoSuchElementException" :: m_qN, vx_ot w = true := by decide +kernel
theorem m_qI_o : ∀ w ∈ Cond.classLink "FerryHall" 107 "java/lang/IllegalArgumentException" :: Cond.initialized "java/lang/IllegalArgumentException" :: m_qI, vx_ot w = true := by decide +kernel
theorem m_ck_N : Cond.classLink "FerryHall" 155 "java/util/NoSuchElementException" ∈ m_tbl := m_is_s (i := 1307) (by decide +kernel)
theorem m_ck_I : Cond.classLink "FerryHall" 107 "java/lang/IllegalArgumentException" ∈ m_tbl := m_is_s (i := 1022) (by decide +kernel)
theorem m_in_N : Cond.initialized "java/util/NoSuchElementException" ∈ m_tbl := m_is_s (i := 160) (by decide +kernel)
theorem m_in_I : Cond.initialized "java/lang/IllegalArgumentException" ∈ m_tbl := m_is_s (i := 155) (by decide +kernel)
theorem m_dcls {args : Array Value} {s : State} (h : m_NW s) : ∀ w ∈ m_dcl.map (fun y => Cond.declares (Bundle.initS y)), w.before args s = true := by
  intro w hw
  obtain ⟨y, hy, rfl⟩ := List.mem_map.mp hw
  exact va_Nw.use rfl (h.2.1 y hy)
theorem m_cov0 (x : Nat) : ∀ y ∈ ([] : List ExceptionTableEntry), covers y x = false := fun _ h => nomatch h
section MTH
variable {l : Launch} {D : va_G} {cA : Nat → Nat} {b : Nat} {ex : Nat → Nat} {sc : mS}
theorem m_thN (hl : l.stackTraces = false) {M : mM} {pc k is len : Nat} {q : String × Nat × String × List Nat} (hcls : (m_My M).cls = "FerryHall") (hh : m_Mh M = []) (hq : m_strs[k]? = some q) (hq1 : q.1 = "FerryHall") (hq2 : q.2.1 = is)
    (d0 : decode (m_Mb M) pc = .ok (.new 155, 3)) (d3 : decode (m_Mb M) (pc + 3) = .ok (.dup, 1)) (d4 : (decode (m_Mb M) (pc + 4) = .ok (.ldc is, 2) ∧ len = 2) ∨ (decode (m_Mb M) (pc + 4) = .ok (.ldc_w is, 3) ∧ len = 3)) (d6 : decode (m_Mb M) (pc + 4 + len) = .ok (.invokespecial 159, 3)) (d9 : decode (m_Mb M) (pc + 4 + len + 3) = .ok (.athrow, 1)) : m_thP l D cA b ex sc M pc 0 := by
  intro p e R s m args below meth c H locs cells slots mc ms Qc XC free lsC st w hbd hsz hH hS hcat hc hs hf0 hl0 hmc hms hX hf
  obtain ⟨hx, hb, hr, hml, hts, hown, hnm, hlocks, htab, hKn⟩ := hbd
  rw [hcls] at hown
  have hR := hKn.2.2.2.2.1.1 k q hq
  rw [hq1, hq2] at hR
  have hcat2 : ((st.map (m_cv b ex)).map (fun v => v.category)).sum ≤ 8 := by rw [m_cat_map]; exact hcat
  exact m_throwX (cls := "java/util/NoSuchElementException") (nxt := "java/lang/RuntimeException") (names := ["java/lang/Exception"]) (ik := 155) (ic := 159) (ix := 13) (rx := prog_27_method_4_code) (A := m_A b) hx hb hl (by decide +kernel) (by decide +kernel) (by decide +kernel) (by decide +kernel) hown (by decide +kernel) (by decide +kernel) (by decide +kernel)
    (hts _ m_ck_N) (hts _ m_in_N) hR (vx_hat (fun w hw => hts w (m_bx_s _ _ m_qN_g w hw)) m_qN_d (m_dcls hKn.2.2.2.2.2)) m_qN_o hKn.2.1 hKn.2.2.1 hS (hsz.trans hml.symm) d0 d3 d4 d6 d9 (by rw [htab, hh]; exact m_cov0 _) (by show 1 + 4 < R.frames; omega) (by show _ + (13 * (1 + 2) + 43) ≤ R.locals; omega) hc hs hlocks hX hf hmc hms
theorem m_thI (hl : l.stackTraces = false) {M : mM} {pc k is len : Nat} {q : String × Nat × String × List Nat} (hcls : (m_My M).cls = "FerryHall") (hh : m_Mh M = []) (hq : m_strs[k]? = some q) (hq1 : q.1 = "FerryHall") (hq2 : q.2.1 = is)
    (d0 : decode (m_Mb M) pc = .ok (.new 107, 3)) (d3 : decode (m_Mb M) (pc + 3) = .ok (.dup, 1)) (d4 : (decode (m_Mb M) (pc + 4) = .ok (.ldc is, 2) ∧ len = 2) ∨ (decode (m_Mb M) (pc + 4) = .ok (.ldc_w is, 3) ∧ len = 3)) (d6 : decode (m_Mb M) (pc + 4 + len) = .ok (.invokespecial 111, 3)) (d9 : decode (m_Mb M) (pc + 4 + len + 3) = .ok (.athrow, 1)) : m_thP l D cA b ex sc M pc 1 := by
  intro p e R s m args below meth c H locs cells slots mc ms Qc XC free lsC st w hbd hsz hH hS hcat hc hs hf0 hl0 hmc hms hX hf
  obtain ⟨hx, hb, hr, hml, hts, hown, hnm, hlocks, htab, hKn⟩ := hbd
  rw [hcls] at hown
  have hR := hKn.2.2.2.2.1.1 k q hq
  rw [hq1, hq2] at hR
  have hcat2 : ((st.map (m_cv b ex)).map (fun v => v.category)).sum ≤ 8 := by rw [m_cat_map]; exact hcat
  exact m_throwX (cls := "java/lang/IllegalArgumentException") (nxt := "java/lang/RuntimeException") (names := ["java/lang/Exception"]) (ik := 107) (ic := 111) (ix := 7) (rx := Bundle.six) (A := m_A b) hx hb hl (by decide +kernel) (by decide +kernel) (by decide +kernel) (by decide +kernel) hown (by decide +kernel) (by decide +kernel) (by decide +kernel)
    (hts _ m_ck_I) (hts _ m_in_I) hR (vx_hat (fun w hw => hts w (m_bx_s _ _ m_qI_g w hw)) m_qI_d (m_dcls hKn.2.2.2.2.2)) m_qI_o hKn.2.1 hKn.2.2.1 hS (hsz.trans hml.symm) d0 d3 d4 d6 d9 (by rw [htab, hh]; exact m_cov0 _) (by show 1 + 4 < R.frames; omega) (by show _ + (13 * (1 + 2) + 43) ≤ R.locals; omega) hc hs hlocks hX hf hmc hms
theorem mh_96_12 (hl : l.stackTraces = false) : m_thP l D cA b ex sc mt_96 12 1 := m_thI hl (k := 0) (is := 109) (len := 2) rfl rfl rfl rfl rfl (by decide +kernel) (by decide +kernel) (Or.inl ⟨by decide +kernel, rfl⟩) (by decide +kernel) (by decide +kernel)
theorem mh_133_106 (hl : l.stackTraces = false) : m_thP l D cA b ex sc mt_133 106 0 := m_thN hl (k := 1) (is := 157) (len := 2) rfl rfl rfl rfl rfl (by decide +kernel) (by decide +kernel) (Or.inl ⟨by decide +kernel, rfl⟩) (by decide +kernel) (by decide +kernel)
theorem mh_135_62 (hl : l.stackTraces = false) : m_thP l D cA b ex sc mt_135 62 0 := m_thN hl (k := 2) (is := 173) (len := 2) rfl rfl rfl rfl rfl (by decide +kernel) (by decide +kernel) (Or.inl ⟨by decide +kernel, rfl⟩) (by decide +kernel) (by decide +kernel)
theorem mh_136_21 (hl : l.stackTraces = false) : m_thP l D cA b ex sc mt_136 21 0 := m_thN hl (k := 3) (is := 175) (len := 2) rfl rfl rfl rfl rfl (by decide +kernel) (by decide +kernel) (Or.inl ⟨by decide +kernel, rfl⟩) (by decide +kernel) (by decide +kernel)
theorem mh_138_20 (hl : l.stackTraces = false) : m_thP l D cA b ex sc mt_138 20 0 := m_thN hl (k := 4) (is := 177) (len := 2) rfl rfl rfl rfl rfl (by decide +kernel) (by decide +kernel) (Or.inl ⟨by decide +kernel, rfl⟩) (by decide +kernel) (by decide +kernel)
theorem mh_138_86 (hl : l.stackTraces = false) : m_thP l D cA b ex sc mt_138 86 0 := m_thN hl (k := 5) (is := 188) (len := 2) rfl rfl rfl rfl rfl (by decide +kernel) (by decide +kernel) (Or.inl ⟨by decide +kernel, rfl⟩) (by decide +kernel) (by decide +kernel)
theorem mh_140_30 (hl : l.stackTraces = false) : m_thP l D cA b ex sc mt_140 30 0 := m_thN hl (k := 6) (is := 190) (len := 2) rfl rfl rfl rfl rfl (by decide +kernel) (by decide +kernel) (Or.inl ⟨by decide +kernel, rfl⟩) (by decide +kernel) (by decide +kernel)
theorem mh_143_24 (hl : l.stackTraces = false) : m_thP l D cA b ex sc mt_143 24 0 := m_thN hl (k := 7) (is := 208) (len := 2) rfl rfl rfl rfl rfl (by decide +kernel) (by decide +kernel) (Or.inl ⟨by decide +kernel, rfl⟩) (by decide +kernel) (by decide +kernel)
theorem mh_148_9 (hl : l.stackTraces = false) : m_thP l D cA b ex sc mt_148 9 0 := m_thN hl (k := 8) (is := 230) (len := 2) rfl rfl rfl rfl rfl (by decide +kernel) (by decide +kernel) (Or.inl ⟨by decide +kernel, rfl⟩) (by decide +kernel) (by decide +kernel)
theorem mh_153_78 (hl : l.stackTraces = false) : m_thP l D cA b ex sc mt_153 78 0 := m_thN hl (k := 9) (is := 263) (len := 3) rfl rfl rfl rfl rfl (by decide +kernel) (by decide +kernel) (Or.inr ⟨by decide +kernel, rfl⟩) (by decide +kernel) (by decide +kernel)
theorem mh_157_20 (hl : l.stackTraces = false) : m_thP l D cA b ex sc mt_157 20 0 := m_thN hl (k := 10) (is := 275) (len := 3) rfl rfl rfl rfl rfl (by decide +kernel) (by decide +kernel) (Or.inr ⟨by decide +kernel, rfl⟩) (by decide +kernel) (by decide +kernel)
theorem mh_161_22 (hl : l.stackTraces = false) : m_thP l D cA b ex sc mt_161 22 0 := m_thN hl (k := 11) (is := 280) (len := 3) rfl rfl rfl rfl rfl (by decide +kernel) (by decide +kernel) (Or.inr ⟨by decide +kernel, rfl⟩) (by decide +kernel) (by decide +kernel)
theorem mh_169_16 (hl : l.stackTraces = false) : m_thP l D cA b ex sc mt_169 16 0 := m_thN hl (k := 12) (is := 301) (len := 3) rfl rfl rfl rfl rfl (by decide +kernel) (by decide +kernel) (Or.inr ⟨by decide +kernel, rfl⟩) (by decide +kernel) (by decide +kernel)
theorem mh_177_122 (hl : l.stackTraces = false) : m_thP l D cA b ex sc mt_177 122 0 := m_thN hl (k := 13) (is := 343) (len := 3) rfl rfl rfl rfl rfl (by decide +kernel) (by decide +kernel) (Or.inr ⟨by decide +kernel, rfl⟩) (by decide +kernel) (by decide +kernel)
end MTH
