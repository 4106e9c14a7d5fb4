/-! ===== the law: calls that cannot throw ===== -/
section
variable {sc : mS} {d : Nat} {t : zT} {I J : Nat → Nat → Int} {Q : zR → zW → Prop} {s : sT} {n : Nat} {x4 : Int} {v5 v6 : zV}
theorem o_fault (hd : 100 ≤ d) (hn : n + 1001 < 2147483648) (hS : 0 ≤ x4 ∧ x4 + 6 ≤ (sc.1 : Int) ∧ sc.1 ≤ 60000) (hL : LIv t I s n) (nx : NX sc d Q x4 t n) : Cl sc d 21 [vr 42] (z_cfg t, I, J) (z_k sc d mt_283 false 286 [vr 56, vr 42, vr 1835, vr 3383, vi x4, v5, v6] [] Q) := by
  obtain ⟨hC, hR, hP⟩ := hL
  refine c21 (by omega) (fun d1 e1 => c_fault hC (fun t1 I1 J1 C1 f1 u1 => b283_289 ?_))
  exact c219 (by omega) (fun d2 e2 => r_fault (hR.cf f1) (fun I2 J2 R2 g2 z2 => Go_w2 (b283_293 ⟨wr_in _, wr_in _, fun _ => nx _ _ _ _ _ _ _ ⟨C1.rf g2, R2, hP⟩ (by omega) u1, fun z => absurd rfl z⟩)))
theorem o_fewest (hd : 100 ≤ d) (hn : n + 1001 < 2147483648) (hS : 0 ≤ x4 ∧ x4 + 6 ≤ (sc.1 : Int) ∧ sc.1 ≤ 60000) (hL : LIv t I s n) (nx : NX sc d Q x4 t n) : Cl sc d 22 [vr 42] (z_cfg t, I, J) (z_k sc d mt_283 false 826 [vr 56, vr 42, vr 1835, vr 3383, vi x4, v5, v6] [] Q) := by
  obtain ⟨hC, hR, hP⟩ := hL
  refine c22 (by omega) (fun d1 e1 => c_fewest (by omega) (by omega) hC (fun t1 I1 J1 C1 f1 u1 => b283_829 ?_))
  exact c252 (by omega) (fun d2 e2 => r_fewest (by omega) hP (hR.cf f1) (fun l hl => by
    have k := C1.2.2.2.2.1
    have k : KCo I1 (sD s) (kpN (sD s) false (sK s)) := k
    rw [hl] at k
    exact k.2) (fun I2 J2 R2 g2 z2 => Go_w2 (b283_833 ⟨wr_in _, wr_in _, fun _ => nx _ _ _ _ _ _ _ ⟨C1.rf g2, R2, hP⟩ (by omega) u1, fun z => absurd rfl z⟩)))
theorem o_quickest (hd : 100 ≤ d) (hn : n + 1001 < 2147483648) (hS : 0 ≤ x4 ∧ x4 + 6 ≤ (sc.1 : Int) ∧ sc.1 ≤ 60000) (hL : LIv t I s n) (nx : NX sc d Q x4 t n) : Cl sc d 73 [vr 42] (z_cfg t, I, J) (z_k sc d mt_283 false 839 [vr 56, vr 42, vr 1835, vr 3383, vi x4, v5, v6] [] Q) := by
  obtain ⟨hC, hR, hP⟩ := hL
  refine c73 (by omega) (fun d1 e1 => c_quickest (by omega) (by omega) hC (fun t1 I1 J1 C1 f1 u1 => b283_842 ?_))
  exact c256 (by omega) (fun d2 e2 => r_quickest (by omega) hP (hR.cf f1) (fun l hl => by
    have k := C1.2.2.2.2.1
    have k : KCo I1 (sD s) (kpN (sD s) true (sK s)) := k
    rw [hl] at k
    exact k.2) (fun I2 J2 R2 g2 z2 => Go_w2 (b283_846 ⟨wr_in _, wr_in _, fun _ => nx _ _ _ _ _ _ _ ⟨C1.rf g2, R2, hP⟩ (by omega) u1, fun z => absurd rfl z⟩)))
theorem o_ways (hd : 100 ≤ d) (hn : n + 1001 < 2147483648) (hS : 0 ≤ x4 ∧ x4 + 6 ≤ (sc.1 : Int) ∧ sc.1 ≤ 60000) (hL : LIv t I s n) (nx : NX sc d Q x4 t n) : Cl sc d 74 [vr 42] (z_cfg t, I, J) (z_k sc d mt_283 false 852 [vr 56, vr 42, vr 1835, vr 3383, vi x4, v5, v6] [] Q) := by
  obtain ⟨hC, hR, hP⟩ := hL
  refine c74 (by omega) (fun d1 e1 => c_ways (by omega) (by omega) hC (fun t1 I1 J1 C1 f1 u1 => b283_855 ?_))
  exact c258 (by omega) (fun d2 e2 => r_ways (by omega) hP (hR.cf f1) (fun I2 J2 R2 g2 z2 => Go_w2 (b283_859 ⟨wr_in _, wr_in _, fun _ => nx _ _ _ _ _ _ _ ⟨C1.rf g2, R2, hP⟩ (by omega) u1, fun z => absurd rfl z⟩)))
theorem o_law (hd : 100 ≤ d) (hn : n + 1001 < 2147483648) (hS : 0 ≤ x4 ∧ x4 + 6 ≤ (sc.1 : Int) ∧ sc.1 ≤ 60000) (hL : LIv t I s n) (nx : NX sc d Q x4 t n) : Cl sc d 93 [vr 42] (z_cfg t, I, J) (z_k sc d mt_283 false 1299 [vr 56, vr 42, vr 1835, vr 3383, vi x4, v5, v6] [] Q) := by
  obtain ⟨hC, hR, hP⟩ := hL
  refine c93 (by omega) (fun d1 e1 => c_law hC (fun t1 I1 J1 C1 f1 u1 => b283_1302 ?_))
  exact c278 (by omega) (fun d2 e2 => r_law (hR.cf f1) (fun I2 J2 R2 g2 z2 => Go_w2 (b283_1306 ⟨wr_in _, wr_in _, fun _ => nx _ _ _ _ _ _ _ ⟨C1.rf g2, R2, hP⟩ (by omega) u1, fun z => absurd rfl z⟩)))
theorem o_back (hd : 100 ≤ d) (hn : n + 1001 < 2147483648) (hS : 0 ≤ x4 ∧ x4 + 6 ≤ (sc.1 : Int) ∧ sc.1 ≤ 60000) (hL : LIv t I s n) (nx : NX sc d Q x4 t n) : Cl sc d 94 [vr 42] (z_cfg t, I, J) (z_k sc d mt_283 false 1312 [vr 56, vr 42, vr 1835, vr 3383, vi x4, v5, v6] [] Q) := by
  obtain ⟨hC, hR, hP⟩ := hL
  refine c94 (by omega) (fun d1 e1 => c_back hC hP.1 (fun t1 I1 J1 C1 f1 u1 => b283_1315 ?_))
  exact c279 (by omega) (fun d2 e2 => r_back hP (hR.cf f1) (fun I2 J2 R2 g2 z2 => Go_w2 (b283_1319 ⟨wr_in _, wr_in _, fun _ => nx _ _ _ _ _ _ _ ⟨C1.rf g2, R2, hP.bk⟩ (by omega) u1, fun z => absurd rfl z⟩)))
theorem o_cross (hd : 100 ≤ d) (hn : n + 1001 < 2147483648) (hS : 0 ≤ x4 ∧ x4 + 6 ≤ (sc.1 : Int) ∧ sc.1 ≤ 60000) (hL : LIv t I s n) (nx : NX sc d Q x4 t n) : Cl sc d 86 [vr 42, vi ((sc.2 (x4 + 1).toNat).toInt), vi ((sc.2 (x4 + 2).toNat).toInt), vi ((sc.2 (x4 + 3).toNat).toInt)] (z_cfg t, I, J) (z_k sc d mt_283 false 1268 [vr 56, vr 42, vr 1835, vr 3383, vi x4, v5, v6] [] Q) := by
  obtain ⟨hC, hR, hP⟩ := hL
  refine c86 (by omega) (fun d1 e1 => c_cross (by omega) hC hP.1 (wIn _ _) (wIn _ _) (wIn _ _) (fun t1 I1 J1 C1 f1 u1 => b283_1271 ⟨by omega, by omega, by omega, ?_⟩))
  exact c275 (by omega) (fun d2 e2 => r_cross (by omega) hP (hR.cf f1) (wIn _ _) (wIn _ _) (wIn _ _) (fun I2 J2 R2 g2 z2 => Go_w2 (b283_1293 ⟨wr_in _, wr_in _, fun _ => nx _ _ _ _ _ _ _ ⟨C1.rf g2, R2, hP.cr (wIn _ _)⟩ (by omega) u1, fun z => absurd rfl z⟩)))
theorem o_rounds (hd : 100 ≤ d) (hn : n + 1001 < 2147483648) (hS : 0 ≤ x4 ∧ x4 + 6 ≤ (sc.1 : Int) ∧ sc.1 ≤ 60000) (hL : LIv t I s n) (nx : NX sc d Q x4 t n) : Cl sc d 75 [vr 42] (z_cfg t, I, J) (z_k sc d mt_283 false 1181 [vr 56, vr 42, vr 1835, vr 3383, vi x4, v5, v6] [] Q) := by
  obtain ⟨hC, hR, hP⟩ := hL
  refine c75 (by omega) (fun d1 e1 => c_rounds (by omega) hC (fun A hA _ t1 I1 J1 C1 f1 u1 => b283_1184 ?_))
  refine c268 (by omega) (fun d2 e2 => r_rounds (by omega) (hR.cf f1) (fun A' hA' _ => ?_))
  obtain rfl : A' = A := rAns_fun hA' hA
  exact fun I2 J2 R2 g2 z2 => Go_w2 (b283_1188 ⟨wr_in _, wr_in _, fun _ => nx _ _ _ _ _ _ _ ⟨C1.rf g2, R2, hP⟩ (by omega) u1, fun z => absurd rfl z⟩)
theorem o_feed (hd : 100 ≤ d) (hn : n + 1001 < 2147483648) (hS : 0 ≤ x4 ∧ x4 + 6 ≤ (sc.1 : Int) ∧ sc.1 ≤ 60000) (hL : LIv t I s n) (nx : NX sc d Q x4 t n) : Cl sc d 19 [vr 42, vi ((sc.2 (x4 + 1).toNat).toInt), vi ((sc.2 (x4 + 2).toNat).toInt), vi ((sc.2 (x4 + 3).toNat).toInt), vi ((sc.2 (x4 + 4).toNat).toInt), vi ((sc.2 (x4 + 5).toNat).toInt)] (z_cfg t, I, J) (z_k sc d mt_283 false 187 [vr 56, vr 42, vr 1835, vr 3383, vi x4, v5, v6] [] Q) := by
  obtain ⟨hC, hR, hP⟩ := hL
  refine c19 (by omega) (fun d1 e1 => c_feed (by omega) hP.2.2.2.1 hC (fun z t1 I1 J1 C1 f1 u1 => b283_190 ⟨by omega, by omega, by omega, by omega, by omega, ?_⟩) (fun z t1 I1 J1 C1 f1 u1 => b283_190 ⟨by omega, by omega, by omega, by omega, by omega, ?_⟩))
  · exact c186 (by omega) (fun d2 e2 => r_feed (by omega) hP (hR.cf f1) (fun _ I2 J2 R2 g2 z2 => Go_w2 (b283_224 ⟨wr_in _, wr_in _, fun _ => nx _ _ _ _ _ _ _ ⟨C1.rf g2, R2, hP⟩ (by omega) u1, fun z => absurd rfl z⟩)) (fun z' => absurd z z'))
  · exact c186 (by omega) (fun d2 e2 => r_feed (by omega) hP (hR.cf f1) (fun z' => absurd z' z) (fun _ I2 J2 R2 g2 z2 => Go_w2 (b283_224 ⟨wr_in _, wr_in _, fun _ => nx _ _ _ _ _ _ _ ⟨C1.rf g2, R2, hP.fd z⟩ (by omega) u1, fun z => absurd rfl z⟩)))
end
