/-! ===== the law: calls that may throw ===== -/
section
variable {sc : mS} {d : Nat} {t : zT} {I J : Nat → Nat → Int} {Q : zR → zW → Prop} {s : sT} {n : Nat} {x4 : Int} {v5 v6 : zV}
theorem ej_of {I1 J1 I2 J2 : Nat → Nat → Int} {v : Int} (g : rFr I1 (z_u J1 3383 (Int.toNat 0) v) I2 J2) : J2 3383 0 = v := by
  rw [(g 3383 (by decide)).2]
  exact zu_same _ _ _ _
theorem o_count (hd : 100 ≤ d) (hn : n + 1001 < 2147483648) (hS : 0 ≤ x4 ∧ x4 + 6 ≤ (sc.1 : Int) ∧ sc.1 ≤ 60000) (hL : LIv t I s n) (nx : NX sc d Q x4 t n) : Cl sc d 132 [vr 42, vi ((sc.2 (x4 + 1).toNat).toInt), vr 3383] (z_cfg t, I, J) (z_k sc d mt_283 false 306 [vr 56, vr 42, vr 1835, vr 3383, vi x4, v5, v6] [] Q) := by
  obtain ⟨hC, hR, hP⟩ := hL
  refine c132 (by omega) (fun d1 e1 => b132_0 (c133 (by omega) (fun d2 e2 => c_count hC (wIn _ _) (fun z t1 I1 J1 C1 f1 u1 => z_kx (ls' := [vr 42, vi ((sc.2 (x4 + 1).toNat).toInt), vr 3383, vn]) rfl rfl (b132_13 (b283_309 ?_))) (fun z t1 I1 J1 C1 f1 u1 => Go_w1 (b132_7 ⟨wr_in _, ⟨by decide, by decide⟩, b283_309 ?_⟩)))))
  · refine ⟨by omega, c233 (by omega) (fun d3 e3 => r_count (by omega) (hR.cf f1) (wIn _ _) (fun _ I2 J2 R2 g2 z2 => b283_321 (c185 (by omega) (fun d4 e4 => b185_0 (b283_327 ?_)))) (fun z' => absurd z' z))⟩
    rw [z2]
    exact ⟨⟨by decide, by decide⟩, ⟨by decide, by decide⟩, fun _ => ⟨fun q => absurd q (by decide), fun _ => b283_351 (nx _ _ _ _ _ _ _ ⟨C1.rf g2, R2, hP⟩ (by omega) u1)⟩, fun q => absurd rfl q⟩
  · refine ⟨by omega, c233 (by omega) (fun d3 e3 => r_count (by omega) (hR.cf f1) (wIn _ _) (fun z' => absurd z z') (fun _ I2 J2 R2 g2 z2 => Go_w1 (b283_321 (c185 (by omega) (fun d4 e4 => b185_0 (b283_327 ?_))))))⟩
    have ej := ej_of g2
    rw [z2]
    exact ⟨⟨by decide, by decide⟩, ⟨by decide, by decide⟩, fun _ => ⟨fun _ => ⟨wr_in _, ⟨by rw [ej]; exact inL_of (wr_in _), inL_of (wr_in _)⟩, fun _ => b283_351 (nx _ _ _ _ _ _ _ ⟨C1.rf g2, R2, hP⟩ (by omega) u1), fun q => absurd (by rw [ej]; exact zlc_s) q⟩, fun q => absurd rfl q⟩, fun q => absurd rfl q⟩
theorem o_thing (hd : 100 ≤ d) (hn : n + 1001 < 2147483648) (hS : 0 ≤ x4 ∧ x4 + 6 ≤ (sc.1 : Int) ∧ sc.1 ≤ 60000) (hL : LIv t I s n) (nx : NX sc d Q x4 t n) : Cl sc d 134 [vr 42, vi ((sc.2 (x4 + 1).toNat).toInt), vi ((sc.2 (x4 + 2).toNat).toInt), vr 3383] (z_cfg t, I, J) (z_k sc d mt_283 false 368 [vr 56, vr 42, vr 1835, vr 3383, vi x4, v5, v6] [] Q) := by
  obtain ⟨hC, hR, hP⟩ := hL
  refine c134 (by omega) (fun d1 e1 => b134_0 (c135 (by omega) (fun d2 e2 => c_thing (by omega) hC (wIn _ _) (wIn _ _) (fun z t1 I1 J1 C1 f1 u1 => z_kx (ls' := [vr 42, vi ((sc.2 (x4 + 1).toNat).toInt), vi ((sc.2 (x4 + 2).toNat).toInt), vr 3383, vn]) rfl rfl (b134_15 (b283_371 ?_))) (fun z t1 I1 J1 C1 f1 u1 => Go_w1 (b134_8 ⟨wr_in _, ⟨by decide, by decide⟩, b283_371 ?_⟩)))))
  · refine ⟨by omega, by omega, c234 (by omega) (fun d3 e3 => r_thing (by omega) (hR.cf f1) (wIn _ _) (wIn _ _) (fun _ I2 J2 R2 g2 z2 => b283_389 (c185 (by omega) (fun d4 e4 => b185_0 (b283_395 ?_)))) (fun z' => absurd z' z))⟩
    rw [z2]
    exact ⟨⟨by decide, by decide⟩, ⟨by decide, by decide⟩, fun _ => ⟨fun q => absurd q (by decide), fun _ => b283_419 (nx _ _ _ _ _ _ _ ⟨C1.rf g2, R2, hP⟩ (by omega) u1)⟩, fun q => absurd rfl q⟩
  · refine ⟨by omega, by omega, c234 (by omega) (fun d3 e3 => r_thing (by omega) (hR.cf f1) (wIn _ _) (wIn _ _) (fun z' => absurd z z') (fun _ I2 J2 R2 g2 z2 => Go_w1 (b283_389 (c185 (by omega) (fun d4 e4 => b185_0 (b283_395 ?_))))))⟩
    have ej := ej_of g2
    rw [z2]
    exact ⟨⟨by decide, by decide⟩, ⟨by decide, by decide⟩, fun _ => ⟨fun _ => ⟨wr_in _, ⟨by rw [ej]; exact inL_of (wr_in _), inL_of (wr_in _)⟩, fun _ => b283_419 (nx _ _ _ _ _ _ _ ⟨C1.rf g2, R2, hP⟩ (by omega) u1), fun q => absurd (by rw [ej]; exact zlc_s) q⟩, fun q => absurd rfl q⟩, fun q => absurd rfl q⟩
theorem o_boat (hd : 100 ≤ d) (hn : n + 1001 < 2147483648) (hS : 0 ≤ x4 ∧ x4 + 6 ≤ (sc.1 : Int) ∧ sc.1 ≤ 60000) (hL : LIv t I s n) (nx : NX sc d Q x4 t n) : Cl sc d 137 [vr 42, vi ((sc.2 (x4 + 1).toNat).toInt), vi ((sc.2 (x4 + 2).toNat).toInt), vr 3383] (z_cfg t, I, J) (z_k sc d mt_283 false 436 [vr 56, vr 42, vr 1835, vr 3383, vi x4, v5, v6] [] Q) := by
  obtain ⟨hC, hR, hP⟩ := hL
  refine c137 (by omega) (fun d1 e1 => b137_0 (c138 (by omega) (fun d2 e2 => c_boat hC (wIn _ _) (wIn _ _) (fun z t1 I1 J1 C1 f1 u1 => z_kx (ls' := [vr 42, vi ((sc.2 (x4 + 1).toNat).toInt), vi ((sc.2 (x4 + 2).toNat).toInt), vr 3383, vn]) rfl rfl (b137_15 (b283_439 ?_))) (fun z t1 I1 J1 C1 f1 u1 => Go_w1 (b137_8 ⟨wr_in _, ⟨by decide, by decide⟩, b283_439 ?_⟩)))))
  · refine ⟨by omega, by omega, c235 (by omega) (fun d3 e3 => r_boat (by omega) (hR.cf f1) (wIn _ _) (wIn _ _) (fun _ I2 J2 R2 g2 z2 => b283_457 (c185 (by omega) (fun d4 e4 => b185_0 (b283_463 ?_)))) (fun z' => absurd z' z))⟩
    rw [z2]
    exact ⟨⟨by decide, by decide⟩, ⟨by decide, by decide⟩, fun _ => ⟨fun q => absurd q (by decide), fun _ => b283_487 (nx _ _ _ _ _ _ _ ⟨C1.rf g2, R2, hP⟩ (by omega) u1)⟩, fun q => absurd rfl q⟩
  · refine ⟨by omega, by omega, c235 (by omega) (fun d3 e3 => r_boat (by omega) (hR.cf f1) (wIn _ _) (wIn _ _) (fun z' => absurd z z') (fun _ I2 J2 R2 g2 z2 => Go_w1 (b283_457 (c185 (by omega) (fun d4 e4 => b185_0 (b283_463 ?_))))))⟩
    have ej := ej_of g2
    rw [z2]
    exact ⟨⟨by decide, by decide⟩, ⟨by decide, by decide⟩, fun _ => ⟨fun _ => ⟨wr_in _, ⟨by rw [ej]; exact inL_of (wr_in _), inL_of (wr_in _)⟩, fun _ => b283_487 (nx _ _ _ _ _ _ _ ⟨C1.rf g2, R2, hP⟩ (by omega) u1), fun q => absurd (by rw [ej]; exact zlc_s) q⟩, fun q => absurd rfl q⟩, fun q => absurd rfl q⟩
theorem o_reached (hd : 100 ≤ d) (hn : n + 1001 < 2147483648) (hS : 0 ≤ x4 ∧ x4 + 6 ≤ (sc.1 : Int) ∧ sc.1 ≤ 60000) (hL : LIv t I s n) (nx : NX sc d Q x4 t n) : Cl sc d 146 [vr 42, vi ((sc.2 (x4 + 1).toNat).toInt), vr 3383] (z_cfg t, I, J) (z_k sc d mt_283 false 777 [vr 56, vr 42, vr 1835, vr 3383, vi x4, v5, v6] [] Q) := by
  obtain ⟨hC, hR, hP⟩ := hL
  refine c146 (by omega) (fun d1 e1 => b146_0 (c147 (by omega) (fun d2 e2 => c_reached (by omega) (by omega) hC (wIn _ _) (fun z t1 I1 J1 C1 f1 u1 => z_kx (ls' := [vr 42, vi ((sc.2 (x4 + 1).toNat).toInt), vr 3383, vn]) rfl rfl (b146_13 (b283_780 ?_))) (fun z t1 I1 J1 C1 f1 u1 => Go_w1 (b146_7 ⟨wr_in _, ⟨by decide, by decide⟩, b283_780 ?_⟩)))))
  · refine ⟨by omega, c238 (by omega) (fun d3 e3 => r_reached (by omega) hP (hR.cf f1) (wIn _ _) (fun _ I2 J2 R2 g2 z2 => b283_792 (c185 (by omega) (fun d4 e4 => b185_0 (b283_798 ?_)))) (fun z' => absurd z' z))⟩
    rw [z2]
    exact ⟨⟨by decide, by decide⟩, ⟨by decide, by decide⟩, fun _ => ⟨fun q => absurd q (by decide), fun _ => b283_822 (nx _ _ _ _ _ _ _ ⟨C1.rf g2, R2, hP⟩ (by omega) u1)⟩, fun q => absurd rfl q⟩
  · refine ⟨by omega, c238 (by omega) (fun d3 e3 => r_reached (by omega) hP (hR.cf f1) (wIn _ _) (fun z' => absurd z z') (fun _ I2 J2 R2 g2 z2 => Go_w1 (b283_792 (c185 (by omega) (fun d4 e4 => b185_0 (b283_798 ?_))))))⟩
    have ej := ej_of g2
    rw [z2]
    exact ⟨⟨by decide, by decide⟩, ⟨by decide, by decide⟩, fun _ => ⟨fun _ => ⟨wr_in _, ⟨by rw [ej]; exact inL_of (wr_in _), inL_of (wr_in _)⟩, fun _ => b283_822 (nx _ _ _ _ _ _ _ ⟨C1.rf g2, R2, hP⟩ (by omega) u1), fun q => absurd (by rw [ej]; exact zlc_s) q⟩, fun q => absurd rfl q⟩, fun q => absurd rfl q⟩
theorem o_way (hd : 100 ≤ d) (hn : n + 1001 < 2147483648) (hS : 0 ≤ x4 ∧ x4 + 6 ≤ (sc.1 : Int) ∧ sc.1 ≤ 60000) (hL : LIv t I s n) (nx : NX sc d Q x4 t n) : Cl sc d 152 [vr 42, vi ((sc.2 (x4 + 1).toNat).toInt), vi ((sc.2 (x4 + 2).toNat).toInt), vr 3383] (z_cfg t, I, J) (z_k sc d mt_283 false 878 [vr 56, vr 42, vr 1835, vr 3383, vi x4, v5, v6] [] Q) := by
  obtain ⟨hC, hR, hP⟩ := hL
  refine c152 (by omega) (fun d1 e1 => b152_0 (c153 (by omega) (fun d2 e2 => c_way (by omega) hC (wIn _ _) (wIn _ _) (fun z t1 I1 J1 C1 f1 u1 => z_kx (ls' := [vr 42, vi ((sc.2 (x4 + 1).toNat).toInt), vi ((sc.2 (x4 + 2).toNat).toInt), vr 3383, vn]) rfl rfl (b152_15 (b283_881 ?_))) (fun l z1 q2 t1 I1 J1 C1 f1 u1 => Go_w1 (b152_8 ⟨wr_in _, ⟨by decide, by decide⟩, b283_881 ?_⟩)))))
  · refine ⟨by omega, by omega, c259 (by omega) (fun d3 e3 => r_way (by omega) (hR.cf f1) (wIn _ _) (wIn _ _) (fun _ I2 J2 R2 g2 z2 => b283_899 (c185 (by omega) (fun d4 e4 => b185_0 (b283_905 ?_)))) (fun l' y1 y2 => absurd ⟨l', y1, y2⟩ z))⟩
    rw [z2]
    exact ⟨⟨by decide, by decide⟩, ⟨by decide, by decide⟩, fun _ => ⟨fun q => absurd q (by decide), fun _ => b283_929 (nx _ _ _ _ _ _ _ ⟨C1.rf g2, R2, hP⟩ (by omega) u1)⟩, fun q => absurd rfl q⟩
  · exact ⟨by omega, by omega, c259 (by omega) (fun d3 e3 => r_way (by omega) (hR.cf f1) (wIn _ _) (wIn _ _) (fun z' => absurd ⟨l, z1, q2⟩ z') (fun l' y1 y2 => by
      obtain rfl : l' = l := Option.some.inj (y1.symm.trans z1)
      intro I2 J2 R2 g2 z2
      refine Go_w1 (b283_899 (c185 (by omega) (fun d4 e4 => b185_0 (b283_905 ?_))))
      have ej := ej_of g2
      rw [z2]
      exact ⟨⟨by decide, by decide⟩, ⟨by decide, by decide⟩, fun _ => ⟨fun _ => ⟨wr_in _, ⟨by rw [ej]; exact inL_of (wr_in _), inL_of (wr_in _)⟩, fun _ => b283_929 (nx _ _ _ _ _ _ _ ⟨C1.rf g2, R2, hP⟩ (by omega) u1), fun q => absurd (by rw [ej]; exact zlc_s) q⟩, fun q => absurd rfl q⟩, fun q => absurd rfl q⟩))⟩
theorem o_where (hd : 100 ≤ d) (hn : n + 1001 < 2147483648) (hS : 0 ≤ x4 ∧ x4 + 6 ≤ (sc.1 : Int) ∧ sc.1 ≤ 60000) (hL : LIv t I s n) (nx : NX sc d Q x4 t n) : Cl sc d 156 [vr 42, vi ((sc.2 (x4 + 1).toNat).toInt), vi ((sc.2 (x4 + 2).toNat).toInt), vr 3383] (z_cfg t, I, J) (z_k sc d mt_283 false 946 [vr 56, vr 42, vr 1835, vr 3383, vi x4, v5, v6] [] Q) := by
  obtain ⟨hC, hR, hP⟩ := hL
  refine c156 (by omega) (fun d1 e1 => b156_0 (c157 (by omega) (fun d2 e2 => c_where (by omega) hC (wIn _ _) (wIn _ _) (fun z t1 I1 J1 C1 f1 u1 => z_kx (ls' := [vr 42, vi ((sc.2 (x4 + 1).toNat).toInt), vi ((sc.2 (x4 + 2).toNat).toInt), vr 3383, vn]) rfl rfl (b156_15 (b283_949 ?_))) (fun l z1 q2 q3 t1 I1 J1 C1 f1 u1 => Go_w1 (b156_8 ⟨wr_in _, ⟨by decide, by decide⟩, b283_949 ?_⟩)))))
  · refine ⟨by omega, by omega, c260 (by omega) (fun d3 e3 => r_where (by omega) (hR.cf f1) (wIn _ _) (wIn _ _) (fun _ I2 J2 R2 g2 z2 => b283_967 (c185 (by omega) (fun d4 e4 => b185_0 (b283_973 ?_)))) (fun l' y1 y2 y3 => absurd ⟨l', y1, y2, y3⟩ z))⟩
    rw [z2]
    exact ⟨⟨by decide, by decide⟩, ⟨by decide, by decide⟩, fun _ => ⟨fun q => absurd q (by decide), fun _ => b283_997 (nx _ _ _ _ _ _ _ ⟨C1.rf g2, R2, hP⟩ (by omega) u1)⟩, fun q => absurd rfl q⟩
  · exact ⟨by omega, by omega, c260 (by omega) (fun d3 e3 => r_where (by omega) (hR.cf f1) (wIn _ _) (wIn _ _) (fun z' => absurd ⟨l, z1, q2, q3⟩ z') (fun l' y1 y2 y3 => by
      obtain rfl : l' = l := Option.some.inj (y1.symm.trans z1)
      intro I2 J2 R2 g2 z2
      refine Go_w1 (b283_967 (c185 (by omega) (fun d4 e4 => b185_0 (b283_973 ?_))))
      have ej := ej_of g2
      rw [z2]
      exact ⟨⟨by decide, by decide⟩, ⟨by decide, by decide⟩, fun _ => ⟨fun _ => ⟨wr_in _, ⟨by rw [ej]; exact inL_of (wr_in _), inL_of (wr_in _)⟩, fun _ => b283_997 (nx _ _ _ _ _ _ _ ⟨C1.rf g2, R2, hP⟩ (by omega) u1), fun q => absurd (by rw [ej]; exact zlc_s) q⟩, fun q => absurd rfl q⟩, fun q => absurd rfl q⟩))⟩
theorem o_rides (hd : 100 ≤ d) (hn : n + 1001 < 2147483648) (hS : 0 ≤ x4 ∧ x4 + 6 ≤ (sc.1 : Int) ∧ sc.1 ≤ 60000) (hL : LIv t I s n) (nx : NX sc d Q x4 t n) : Cl sc d 160 [vr 42, vi ((sc.2 (x4 + 1).toNat).toInt), vi ((sc.2 (x4 + 2).toNat).toInt), vr 3383] (z_cfg t, I, J) (z_k sc d mt_283 false 1014 [vr 56, vr 42, vr 1835, vr 3383, vi x4, v5, v6] [] Q) := by
  obtain ⟨hC, hR, hP⟩ := hL
  refine c160 (by omega) (fun d1 e1 => b160_0 (c161 (by omega) (fun d2 e2 => c_rides (by omega) hC (wIn _ _) (wIn _ _) (fun z t1 I1 J1 C1 f1 u1 => z_kx (ls' := [vr 42, vi ((sc.2 (x4 + 1).toNat).toInt), vi ((sc.2 (x4 + 2).toNat).toInt), vr 3383, vn]) rfl rfl (b160_15 (b283_1017 ?_))) (fun l z1 q2 q3 t1 I1 J1 C1 f1 u1 => Go_w1 (b160_8 ⟨wr_in _, ⟨by decide, by decide⟩, b283_1017 ?_⟩)))))
  · refine ⟨by omega, by omega, c261 (by omega) (fun d3 e3 => r_rides (by omega) (hR.cf f1) (wIn _ _) (wIn _ _) (fun _ I2 J2 R2 g2 z2 => b283_1035 (c185 (by omega) (fun d4 e4 => b185_0 (b283_1041 ?_)))) (fun l' y1 y2 y3 => absurd ⟨l', y1, y2, y3⟩ z))⟩
    rw [z2]
    exact ⟨⟨by decide, by decide⟩, ⟨by decide, by decide⟩, fun _ => ⟨fun q => absurd q (by decide), fun _ => b283_1065 (nx _ _ _ _ _ _ _ ⟨C1.rf g2, R2, hP⟩ (by omega) u1)⟩, fun q => absurd rfl q⟩
  · exact ⟨by omega, by omega, c261 (by omega) (fun d3 e3 => r_rides (by omega) (hR.cf f1) (wIn _ _) (wIn _ _) (fun z' => absurd ⟨l, z1, q2, q3⟩ z') (fun l' y1 y2 y3 => by
      obtain rfl : l' = l := Option.some.inj (y1.symm.trans z1)
      intro I2 J2 R2 g2 z2
      refine Go_w1 (b283_1035 (c185 (by omega) (fun d4 e4 => b185_0 (b283_1041 ?_))))
      have ej := ej_of g2
      rw [z2]
      exact ⟨⟨by decide, by decide⟩, ⟨by decide, by decide⟩, fun _ => ⟨fun _ => ⟨wr_in _, ⟨by rw [ej]; exact inL_of (wr_in _), inL_of (wr_in _)⟩, fun _ => b283_1065 (nx _ _ _ _ _ _ _ ⟨C1.rf g2, R2, hP⟩ (by omega) u1), fun q => absurd (by rw [ej]; exact zlc_s) q⟩, fun q => absurd rfl q⟩, fun q => absurd rfl q⟩))⟩
theorem o_laws (hd : 100 ≤ d) (hn : n + 1001 < 2147483648) (hS : 0 ≤ x4 ∧ x4 + 6 ≤ (sc.1 : Int) ∧ sc.1 ≤ 60000) (hL : LIv t I s n) (nx : NX sc d Q x4 t n) : Cl sc d 165 [vr 42, vi ((sc.2 (x4 + 1).toNat).toInt), vr 3383] (z_cfg t, I, J) (z_k sc d mt_283 false 1076 [vr 56, vr 42, vr 1835, vr 3383, vi x4, v5, v6] [] Q) := by
  obtain ⟨hC, hR, hP⟩ := hL
  refine c165 (by omega) (fun d1 e1 => b165_0 (c166 (by omega) (fun d2 e2 => c_laws (by omega) (by omega) hC (wIn _ _) (fun z t1 I1 J1 C1 f1 u1 => z_kx (ls' := [vr 42, vi ((sc.2 (x4 + 1).toNat).toInt), vr 3383, vn]) rfl rfl (b165_13 (b283_1079 ?_))) (fun z t1 I1 J1 C1 f1 u1 => Go_w1 (b165_7 ⟨wr_in _, ⟨by decide, by decide⟩, b283_1079 ?_⟩)))))
  · refine ⟨by omega, c262 (by omega) (fun d3 e3 => r_laws (by omega) hP (hR.cf f1) (wIn _ _) (fun _ I2 J2 R2 g2 z2 => b283_1091 (c185 (by omega) (fun d4 e4 => b185_0 (b283_1097 ?_)))) (fun z' => absurd z' z))⟩
    rw [z2]
    exact ⟨⟨by decide, by decide⟩, ⟨by decide, by decide⟩, fun _ => ⟨fun q => absurd q (by decide), fun _ => b283_1121 (nx _ _ _ _ _ _ _ ⟨C1.rf g2, R2, hP⟩ (by omega) u1)⟩, fun q => absurd rfl q⟩
  · refine ⟨by omega, c262 (by omega) (fun d3 e3 => r_laws (by omega) hP (hR.cf f1) (wIn _ _) (fun z' => absurd z z') (fun _ I2 J2 R2 g2 z2 => Go_w1 (b283_1091 (c185 (by omega) (fun d4 e4 => b185_0 (b283_1097 ?_))))))⟩
    have ej := ej_of g2
    rw [z2]
    exact ⟨⟨by decide, by decide⟩, ⟨by decide, by decide⟩, fun _ => ⟨fun _ => ⟨wr_in _, ⟨by rw [ej]; exact inL_of (wr_in _), inL_of (wr_in _)⟩, fun _ => b283_1121 (nx _ _ _ _ _ _ _ ⟨C1.rf g2, R2, hP⟩ (by omega) u1), fun q => absurd (by rw [ej]; exact zlc_s) q⟩, fun q => absurd rfl q⟩, fun q => absurd rfl q⟩
theorem o_size (hd : 100 ≤ d) (hn : n + 1001 < 2147483648) (hS : 0 ≤ x4 ∧ x4 + 6 ≤ (sc.1 : Int) ∧ sc.1 ≤ 60000) (hL : LIv t I s n) (nx : NX sc d Q x4 t n) : Cl sc d 168 [vr 42, vi ((sc.2 (x4 + 1).toNat).toInt), vr 3383] (z_cfg t, I, J) (z_k sc d mt_283 false 1132 [vr 56, vr 42, vr 1835, vr 3383, vi x4, v5, v6] [] Q) := by
  obtain ⟨hC, hR, hP⟩ := hL
  refine c168 (by omega) (fun d1 e1 => b168_0 (c169 (by omega) (fun d2 e2 => c_size (by omega) (by omega) hC (wIn _ _) (fun z t1 I1 J1 C1 f1 u1 => z_kx (ls' := [vr 42, vi ((sc.2 (x4 + 1).toNat).toInt), vr 3383, vn]) rfl rfl (b168_13 (b283_1135 ?_))) (fun z t1 I1 J1 C1 f1 u1 => Go_w1 (b168_7 ⟨wr_in _, ⟨by decide, by decide⟩, b283_1135 ?_⟩)))))
  · refine ⟨by omega, c265 (by omega) (fun d3 e3 => r_size (by omega) hP (hR.cf f1) (wIn _ _) (fun _ I2 J2 R2 g2 z2 => b283_1147 (c185 (by omega) (fun d4 e4 => b185_0 (b283_1153 ?_)))) (fun z' => absurd z' z))⟩
    rw [z2]
    exact ⟨⟨by decide, by decide⟩, ⟨by decide, by decide⟩, fun _ => ⟨fun q => absurd q (by decide), fun _ => b283_1177 (nx _ _ _ _ _ _ _ ⟨C1.rf g2, R2, hP⟩ (by omega) u1)⟩, fun q => absurd rfl q⟩
  · refine ⟨by omega, c265 (by omega) (fun d3 e3 => r_size (by omega) hP (hR.cf f1) (wIn _ _) (fun z' => absurd z z') (fun _ I2 J2 R2 g2 z2 => Go_w1 (b283_1147 (c185 (by omega) (fun d4 e4 => b185_0 (b283_1153 ?_))))))⟩
    have ej := ej_of g2
    rw [z2]
    exact ⟨⟨by decide, by decide⟩, ⟨by decide, by decide⟩, fun _ => ⟨fun _ => ⟨wr_in _, ⟨by rw [ej]; exact inL_of (wr_in _), inL_of (wr_in _)⟩, fun _ => b283_1177 (nx _ _ _ _ _ _ _ ⟨C1.rf g2, R2, hP⟩ (by omega) u1), fun q => absurd (by rw [ej]; exact zlc_s) q⟩, fun q => absurd rfl q⟩, fun q => absurd rfl q⟩
theorem o_alike (hd : 100 ≤ d) (hn : n + 1001 < 2147483648) (hS : 0 ≤ x4 ∧ x4 + 6 ≤ (sc.1 : Int) ∧ sc.1 ≤ 60000) (hL : LIv t I s n) (nx : NX sc d Q x4 t n) : Cl sc d 172 [vr 42, vi ((sc.2 (x4 + 1).toNat).toInt), vr 3383] (z_cfg t, I, J) (z_k sc d mt_283 false 1201 [vr 56, vr 42, vr 1835, vr 3383, vi x4, v5, v6] [] Q) := by
  obtain ⟨hC, hR, hP⟩ := hL
  refine c172 (by omega) (fun d1 e1 => b172_0 (c173 (by omega) (fun d2 e2 => c_alike (by omega) hC (wIn _ _) (fun z t1 I1 J1 C1 f1 u1 => z_kx (ls' := [vr 42, vi ((sc.2 (x4 + 1).toNat).toInt), vr 3383, vn]) rfl rfl (b172_13 (b283_1204 ?_))) (fun z t1 I1 J1 C1 f1 u1 => Go_w1 (b172_7 ⟨wr_in _, ⟨by decide, by decide⟩, b283_1204 ?_⟩)))))
  · refine ⟨by omega, c231 (by omega) (fun d3 e3 => r_alike (by omega) (hR.cf f1) (wIn _ _) (fun _ I2 J2 R2 g2 z2 => b283_1216 (c185 (by omega) (fun d4 e4 => b185_0 (b283_1222 ?_)))) (fun z' => absurd z' z))⟩
    rw [z2]
    exact ⟨⟨by decide, by decide⟩, ⟨by decide, by decide⟩, fun _ => ⟨fun q => absurd q (by decide), fun _ => b283_1246 (nx _ _ _ _ _ _ _ ⟨C1.rf g2, R2, hP⟩ (by omega) u1)⟩, fun q => absurd rfl q⟩
  · refine ⟨by omega, c231 (by omega) (fun d3 e3 => r_alike (by omega) (hR.cf f1) (wIn _ _) (fun z' => absurd z z') (fun _ I2 J2 R2 g2 z2 => Go_w1 (b283_1216 (c185 (by omega) (fun d4 e4 => b185_0 (b283_1222 ?_))))))⟩
    have ej := ej_of g2
    rw [z2]
    exact ⟨⟨by decide, by decide⟩, ⟨by decide, by decide⟩, fun _ => ⟨fun _ => ⟨wr_in _, ⟨by rw [ej]; exact inL_of (wr_in _), inL_of (wr_in _)⟩, fun _ => b283_1246 (nx _ _ _ _ _ _ _ ⟨C1.rf g2, R2, hP⟩ (by omega) u1), fun q => absurd (by rw [ej]; exact zlc_s) q⟩, fun q => absurd rfl q⟩, fun q => absurd rfl q⟩
theorem o_play (hd : 100 ≤ d) (hn : n + 1001 < 2147483648) (hS : 0 ≤ x4 ∧ x4 + 6 ≤ (sc.1 : Int) ∧ sc.1 ≤ 60000) (hL : LIv t I s n) (nx : NX sc d Q x4 t n) : Cl sc d 176 [vr 42, vi ((sc.2 (x4 + 1).toNat).toInt), vr 3383] (z_cfg t, I, J) (z_k sc d mt_283 false 1332 [vr 56, vr 42, vr 1835, vr 3383, vi x4, v5, v6] [] Q) := by
  obtain ⟨hC, hR, hP⟩ := hL
  refine c176 (by omega) (fun d1 e1 => b176_0 (c177 (by omega) (fun d2 e2 => c_play (by omega) hC hP.1 (wIn _ _) (fun z t1 I1 J1 C1 f1 u1 => z_kx (ls' := [vr 42, vi ((sc.2 (x4 + 1).toNat).toInt), vr 3383, vn]) rfl rfl (b176_13 (b283_1335 ?_))) (fun z t1 I1 J1 C1 f1 u1 => Go_w1 (b176_7 ⟨wr_in _, ⟨by decide, by decide⟩, b283_1335 ?_⟩)))))
  · refine ⟨by omega, c280 (by omega) (fun d3 e3 => r_play (by omega) hP (hR.cf f1) (wIn _ _) (fun _ I2 J2 R2 g2 z2 => b283_1347 (c185 (by omega) (fun d4 e4 => b185_0 (b283_1353 ?_)))) (fun z' => absurd z' z))⟩
    rw [z2]
    exact ⟨⟨by decide, by decide⟩, ⟨by decide, by decide⟩, fun _ => ⟨fun q => absurd q (by decide), fun _ => b283_1377 (nx _ _ _ _ _ _ _ ⟨C1.rf g2, R2, hP⟩ (by omega) u1)⟩, fun q => absurd rfl q⟩
  · refine ⟨by omega, c280 (by omega) (fun d3 e3 => r_play (by omega) hP (hR.cf f1) (wIn _ _) (fun z' => absurd z z') (fun _ I2 J2 R2 g2 z2 => Go_w1 (b283_1347 (c185 (by omega) (fun d4 e4 => b185_0 (b283_1353 ?_))))))⟩
    have ej := ej_of g2
    rw [z2]
    exact ⟨⟨by decide, by decide⟩, ⟨by decide, by decide⟩, fun _ => ⟨fun _ => ⟨wr_in _, ⟨by rw [ej]; exact inL_of (wr_in _), inL_of (wr_in _)⟩, fun _ => b283_1377 (nx _ _ _ _ _ _ _ ⟨C1.rf g2, R2, hP⟩ (by omega) u1), fun q => absurd (by rw [ej]; exact zlc_s) q⟩, fun q => absurd rfl q⟩, fun q => absurd rfl q⟩
theorem o_hint (hd : 100 ≤ d) (hn : n + 1001 < 2147483648) (hS : 0 ≤ x4 ∧ x4 + 6 ≤ (sc.1 : Int) ∧ sc.1 ≤ 60000) (hL : LIv t I s n) (nx : NX sc d Q x4 t n) : Cl sc d 179 [vr 42, vi ((sc.2 (x4 + 1).toNat).toInt), vr 3383] (z_cfg t, I, J) (z_k sc d mt_283 false 1388 [vr 56, vr 42, vr 1835, vr 3383, vi x4, v5, v6] [] Q) := by
  obtain ⟨hC, hR, hP⟩ := hL
  obtain ⟨k0, hk0⟩ := hP.k0
  refine c179 (by omega) (fun d1 e1 => b179_0 (c180 (by omega) (fun d2 e2 => c_hint (by omega) (by omega) hC hP.1 hk0 (wIn _ _) (fun z t1 I1 J1 C1 f1 u1 => z_kx (ls' := [vr 42, vi ((sc.2 (x4 + 1).toNat).toInt), vr 3383, vn]) rfl rfl (b179_13 (b283_1391 ?_))) (fun z t1 I1 J1 C1 f1 u1 => Go_w1 (b179_7 ⟨wr_in _, ⟨by decide, by decide⟩, b283_1391 ?_⟩)))))
  · refine ⟨by omega, c282 (by omega) (fun d3 e3 => r_hint (by omega) hP (hR.cf f1) hk0 (wIn _ _) (fun _ I2 J2 R2 g2 z2 => b283_1403 (c185 (by omega) (fun d4 e4 => b185_0 (b283_1409 ?_)))) (fun z' => absurd z' z))⟩
    rw [z2]
    exact ⟨⟨by decide, by decide⟩, ⟨by decide, by decide⟩, fun _ => ⟨fun q => absurd q (by decide), fun _ => b283_1433 (nx _ _ _ _ _ _ _ ⟨C1.rf g2, R2, hP⟩ (by omega) u1)⟩, fun q => absurd rfl q⟩
  · refine ⟨by omega, c282 (by omega) (fun d3 e3 => r_hint (by omega) hP (hR.cf f1) hk0 (wIn _ _) (fun z' => absurd z z') (fun _ I2 J2 R2 g2 z2 => Go_w1 (b283_1403 (c185 (by omega) (fun d4 e4 => b185_0 (b283_1409 ?_))))))⟩
    have ej := ej_of g2
    rw [z2]
    exact ⟨⟨by decide, by decide⟩, ⟨by decide, by decide⟩, fun _ => ⟨fun _ => ⟨wr_in _, ⟨by rw [ej]; exact inL_of (wr_in _), inL_of (wr_in _)⟩, fun _ => b283_1433 (nx _ _ _ _ _ _ _ ⟨C1.rf g2, R2, hP⟩ (by omega) u1), fun q => absurd (by rw [ej]; exact zlc_s) q⟩, fun q => absurd rfl q⟩, fun q => absurd rfl q⟩
end
