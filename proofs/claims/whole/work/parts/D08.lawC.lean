/-! ===== the law: the other calls ===== -/
section
variable {sc : mS} {d : Nat} {t : zT} {I J : Nat → Nat → Int} {Q : zR → zW → Prop} {s : sT} {n : Nat} {x4 : Int} {v5 v6 : zV}
theorem wr_b (b : Bool) : wr ((b.toNat : Nat) : Int) = 0 ∨ wr ((b.toNat : Nat) : Int) = 1 := by
  cases b
  · exact Or.inl (by decide)
  · exact Or.inr (by decide)
theorem o_text (hd : 100 ≤ d) (hn : n + 1001 < 2147483648) (hS : 0 ≤ x4 ∧ x4 + 6 ≤ (sc.1 : Int) ∧ sc.1 ≤ 60000) (hL : LIv t I s n) (nx : NX sc d Q x4 t n) : Cl sc d 95 [vr 42, vi ((sc.2 (x4 + 1).toNat).toInt), vr 3383] (z_cfg t, I, J) (z_k sc d mt_283 false 237 [vr 56, vr 42, vr 1835, vr 3383, vi x4, v5, v6] [] Q) := by
  obtain ⟨hC, hR, hP⟩ := hL
  refine c95 (by omega) (fun d1 e1 => b95_0 (c96 (by omega) (fun d2 e2 => c_text (by omega) hP (wIn _ _) hC (fun z t1 I1 J1 C1 f1 u1 => z_kx (ls' := [vr 42, vi ((sc.2 (x4 + 1).toNat).toInt), vr 3383, vn]) rfl rfl (b95_13 (b283_240 ?_))) (fun m e h1 h2 h3 h4 h5 t1 I1 J1 C1 f1 u1 => Go_w1 (b95_7 ⟨wr_in _, ⟨by decide, by decide⟩, b283_240 ?_⟩)) (fun m q h1 h2 h3 t1 I1 J1 C1 f1 u1 => Go_w1 (b95_7 ⟨wr_in _, ⟨by decide, by decide⟩, b283_240 ?_⟩)))))
  · refine ⟨by omega, c188 (by omega) (fun d3 e3 => r_text (by omega) hP (wIn _ _) (hR.cf f1) (fun _ I2 J2 R2 g2 z2 => b283_252 (c185 (by omega) (fun d4 e4 => b185_0 (b283_258 ?_)))) (fun m' e' y1 y2 _ => False.elim (by omega)) (fun m' q' y1 y2 _ _ => False.elim (by omega)))⟩
    rw [z2]
    exact ⟨⟨by decide, by decide⟩, ⟨by decide, by decide⟩, fun _ => ⟨fun q => absurd q (by decide), fun _ => b283_282 (nx _ _ _ _ _ _ _ ⟨C1.rf g2, R2, hP⟩ (by omega) u1)⟩, fun q => absurd rfl q⟩
  · refine ⟨by omega, c188 (by omega) (fun d3 e3 => r_text (by omega) hP (wIn _ _) (hR.cf f1) (fun z' => False.elim (by omega)) (fun m' e' y1 y2 y3 => ?_) (fun m' q' y1 y2 y3 _ => ?_))⟩
    · obtain rfl : m' = m := by omega
      obtain rfl : e' = e := Sum.inr.inj (y3.symm.trans h3)
      intro I2 J2 R2 g2 z2
      refine Go_w1 (b283_252 (c185 (by omega) (fun d4 e4 => b185_0 (b283_258 ?_))))
      have ej := ej_of g2
      rw [z2]
      exact ⟨⟨by decide, by decide⟩, ⟨by decide, by decide⟩, fun _ => ⟨fun _ => ⟨wr_in _, ⟨by rw [ej]; exact inL_of (wr_in _), inL_of (wr_in _)⟩, fun _ => b283_282 (nx _ _ _ _ _ _ _ ⟨C1.rf g2, R2, hP.flt h5⟩ (by omega) u1), fun q => absurd (by rw [ej]; exact zlc_s) q⟩, fun q => absurd rfl q⟩, fun q => absurd rfl q⟩
    · obtain rfl : m' = m := by omega
      exact nomatch (y3.symm.trans h3)
  · refine ⟨by omega, c188 (by omega) (fun d3 e3 => r_text (by omega) hP (wIn _ _) (hR.cf f1) (fun z' => False.elim (by omega)) (fun m' e' y1 y2 y3 => ?_) (fun m' q' y1 y2 y3 y4 => ?_))⟩
    · obtain rfl : m' = m := by omega
      exact nomatch (y3.symm.trans h3)
    · obtain rfl : m' = m := by omega
      intro I2 J2 R2 g2 z2
      refine Go_w1 (b283_252 (c185 (by omega) (fun d4 e4 => b185_0 (b283_258 ?_))))
      have ej := ej_of g2
      rw [z2]
      exact ⟨⟨by decide, by decide⟩, ⟨by decide, by decide⟩, fun _ => ⟨fun _ => ⟨wr_in _, ⟨by rw [ej]; exact inL_of (wr_in _), inL_of (wr_in _)⟩, fun _ => b283_282 (nx _ _ _ _ _ _ _ ⟨C1.rf g2, R2, PVs.new y4 (tAll_hl y3)⟩ (by omega) u1), fun q => absurd (by rw [ej]; exact zlc_s) q⟩, fun q => absurd rfl q⟩, fun q => absurd rfl q⟩
theorem o_water (hd : 100 ≤ d) (hn : n + 1001 < 2147483648) (hS : 0 ≤ x4 ∧ x4 + 6 ≤ (sc.1 : Int) ∧ sc.1 ≤ 60000) (hL : LIv t I s n) (nx : NX sc d Q x4 t n) : Cl sc d 139 [vr 42, vi ((sc.2 (x4 + 1).toNat).toInt), vi ((sc.2 (x4 + 2).toNat).toInt), vr 3383] (z_cfg t, I, J) (z_k sc d mt_283 false 504 [vr 56, vr 42, vr 1835, vr 3383, vi x4, v5, v6] [] Q) := by
  obtain ⟨hC, hR, hP⟩ := hL
  refine c139 (by omega) (fun d1 e1 => b139_0 (c140 (by omega) (fun d2 e2 => c_water (by omega) hC (wIn _ _) (wIn _ _) (fun z t1 I1 J1 C1 f1 u1 => z_kx (ls' := [vr 42, vi ((sc.2 (x4 + 1).toNat).toInt), vi ((sc.2 (x4 + 2).toNat).toInt), vr 3383, vn]) rfl rfl (b139_22 (b283_507 ?_))) (fun z t1 I1 J1 C1 f1 u1 => Go_w1 (b139_8 ?_)))))
  · refine ⟨by omega, by omega, c236 (by omega) (fun d3 e3 => r_water (by omega) (hR.cf f1) (wIn _ _) (wIn _ _) (fun _ I2 J2 R2 g2 z2 => b283_525 (c185 (by omega) (fun d4 e4 => b185_0 (b283_531 ?_)))) (fun z' => absurd z' z))⟩
    rw [z2]
    exact ⟨⟨by decide, by decide⟩, ⟨by decide, by decide⟩, fun _ => ⟨fun q => absurd q (by decide), fun _ => b283_562 (nx _ _ _ _ _ _ _ ⟨C1.rf g2, R2, hP⟩ (by omega) u1)⟩, fun q => absurd rfl q⟩
  · refine ⟨wr_in _, fun c => ⟨⟨by decide, by decide⟩, b283_507 ?_⟩, fun c => ⟨⟨by decide, by decide⟩, b283_507 ?_⟩⟩
    · refine ⟨by omega, by omega, c236 (by omega) (fun d3 e3 => r_water (by omega) (hR.cf f1) (wIn _ _) (wIn _ _) (fun z' => absurd z z') (fun _ I2 J2 R2 g2 z2 => Go_w1 (b283_525 (c185 (by omega) (fun d4 e4 => b185_0 (b283_531 ?_))))))⟩
      have ej := ej_of g2
      rw [z2, c]
      exact ⟨⟨by decide, by decide⟩, ⟨by decide, by decide⟩, fun _ => ⟨fun _ => ⟨⟨by decide, by decide⟩, fun _ => b283_556 ⟨⟨by rw [ej]; exact inL_of ⟨by decide, by decide⟩, inL_of ⟨by decide, by decide⟩⟩, fun _ => b283_562 (nx _ _ _ _ _ _ _ ⟨C1.rf g2, R2, hP⟩ (by omega) u1), fun q => absurd (by rw [ej]; exact zlc_s) q⟩, fun q => absurd rfl q⟩, fun q => absurd rfl q⟩, fun q => absurd rfl q⟩
    · refine ⟨by omega, by omega, c236 (by omega) (fun d3 e3 => r_water (by omega) (hR.cf f1) (wIn _ _) (wIn _ _) (fun z' => absurd z z') (fun _ I2 J2 R2 g2 z2 => Go_w1 (b283_525 (c185 (by omega) (fun d4 e4 => b185_0 (b283_531 ?_))))))⟩
      have ej := ej_of g2
      rw [z2, (wr_b _).resolve_left c]
      exact ⟨⟨by decide, by decide⟩, ⟨by decide, by decide⟩, fun _ => ⟨fun _ => ⟨⟨by decide, by decide⟩, fun q => absurd q (by decide), fun _ => b283_556 ⟨⟨by rw [ej]; exact inL_of ⟨by decide, by decide⟩, inL_of ⟨by decide, by decide⟩⟩, fun _ => b283_562 (nx _ _ _ _ _ _ _ ⟨C1.rf g2, R2, hP⟩ (by omega) u1), fun q => absurd (by rw [ej]; exact zlc_s) q⟩⟩, fun q => absurd rfl q⟩, fun q => absurd rfl q⟩
theorem o_bars {lb : Bool} (hlb : (lb = false ∧ ((sc.2 (x4 + 4).toNat).toInt) = 0) ∨ (lb = true ∧ ¬ ((sc.2 (x4 + 4).toNat).toInt) = 0)) (hd : 100 ≤ d) (hn : n + 1001 < 2147483648) (hS : 0 ≤ x4 ∧ x4 + 6 ≤ (sc.1 : Int) ∧ sc.1 ≤ 60000) (hL : LIv t I s n) (nx : NX sc d Q x4 t n) : Cl sc d 141 [vr 42, vi ((sc.2 (x4 + 1).toNat).toInt), vi ((sc.2 (x4 + 2).toNat).toInt), vi ((sc.2 (x4 + 3).toNat).toInt), vi ((lb.toNat : Nat) : Int), vr 3383] (z_cfg t, I, J) (z_k sc d mt_283 false 599 [vr 56, vr 42, vr 1835, vr 3383, vi x4, v5, v6] [] Q) := by
  obtain ⟨hC, hR, hP⟩ := hL
  have kb : ∀ (t1 : zT) (I1 J1 : Nat → Nat → Int) (x5 : Int), Go sc d mt_283 637 [vr 56, vr 42, vr 1835, vr 3383, vi x4, vi x5, v6] [vi ((lb.toNat : Nat) : Int), vi ((sc.2 (x4 + 3).toNat).toInt), vi ((sc.2 (x4 + 2).toNat).toInt), vi ((sc.2 (x4 + 1).toNat).toInt), vr 1835] (z_cfg t1, I1, J1) Q → Go sc d mt_283 602 [vr 56, vr 42, vr 1835, vr 3383, vi x4, v5, v6] [vi x5] (z_cfg t1, I1, J1) Q := by
    intro t1 I1 J1 x5 hg
    refine b283_602 ⟨by omega, by omega, by omega, by omega, fun c0 => ?_, fun c0 => ?_⟩
    · rcases hlb with ⟨q, z⟩ | ⟨q, z⟩
      · subst q; exact hg
      · exact absurd c0 z
    · rcases hlb with ⟨q, z⟩ | ⟨q, z⟩
      · exact absurd z c0
      · subst q; exact hg
  refine c141 (by omega) (fun d1 e1 => b141_0 (c142 (by omega) (fun d2 e2 => c_bars (by omega) hC (wIn _ _) (wIn _ _) (fun z t1 I1 J1 C1 f1 u1 => z_kx (ls' := [vr 42, vi ((sc.2 (x4 + 1).toNat).toInt), vi ((sc.2 (x4 + 2).toNat).toInt), vi ((sc.2 (x4 + 3).toNat).toInt), vi ((lb.toNat : Nat) : Int), vr 3383, vn]) rfl rfl (b141_19 (kb _ _ _ _ (b283_637 ?_)))) (fun z t1 I1 J1 C1 f1 u1 => Go_w1 (b141_12 ⟨wr_in _, ⟨by decide, by decide⟩, kb _ _ _ _ (b283_637 ?_)⟩)))))
  · refine c220 (by omega) (fun d3 e3 => r_bars (by omega) (hR.cf f1) (wIn _ _) (wIn _ _) (fun _ I2 J2 R2 g2 z2 => b283_640 (c185 (by omega) (fun d4 e4 => b185_0 (b283_646 ?_)))) (fun z' => absurd z' z))
    rw [z2]
    exact ⟨⟨by decide, by decide⟩, ⟨by decide, by decide⟩, fun _ => ⟨fun q => absurd q (by decide), fun _ => b283_670 (nx _ _ _ _ _ _ _ ⟨C1.rf g2, R2, hP⟩ (by omega) u1)⟩, fun q => absurd rfl q⟩
  · refine c220 (by omega) (fun d3 e3 => r_bars (by omega) (hR.cf f1) (wIn _ _) (wIn _ _) (fun z' => absurd z z') (fun _ I2 J2 R2 g2 z2 => Go_w1 (b283_640 (c185 (by omega) (fun d4 e4 => b185_0 (b283_646 ?_))))))
    have ej := ej_of g2
    rw [z2]
    exact ⟨⟨by decide, by decide⟩, ⟨by decide, by decide⟩, fun _ => ⟨fun _ => ⟨wr_in _, ⟨by rw [ej]; exact inL_of (wr_in _), inL_of (wr_in _)⟩, fun _ => b283_670 (nx _ _ _ _ _ _ _ ⟨C1.rf g2, R2, hP⟩ (by omega) u1), fun q => absurd (by rw [ej]; exact zlc_s) q⟩, fun q => absurd rfl q⟩, fun q => absurd rfl q⟩
theorem o_safe {lb : Bool} (hlb : (lb = false ∧ ((sc.2 (x4 + 3).toNat).toInt) = 0) ∨ (lb = true ∧ ¬ ((sc.2 (x4 + 3).toNat).toInt) = 0)) (hd : 100 ≤ d) (hn : n + 1001 < 2147483648) (hS : 0 ≤ x4 ∧ x4 + 6 ≤ (sc.1 : Int) ∧ sc.1 ≤ 60000) (hL : LIv t I s n) (nx : NX sc d Q x4 t n) : Cl sc d 144 [vr 42, vi ((sc.2 (x4 + 1).toNat).toInt), vi ((sc.2 (x4 + 2).toNat).toInt), vi ((lb.toNat : Nat) : Int), vr 3383] (z_cfg t, I, J) (z_k sc d mt_283 false 701 [vr 56, vr 42, vr 1835, vr 3383, vi x4, v5, v6] [] Q) := by
  obtain ⟨hC, hR, hP⟩ := hL
  have kb : ∀ (t1 : zT) (I1 J1 : Nat → Nat → Int) (x5 : Int), Go sc d mt_283 733 [vr 56, vr 42, vr 1835, vr 3383, vi x4, vi x5, v6] [vi ((lb.toNat : Nat) : Int), vi ((sc.2 (x4 + 2).toNat).toInt), vi ((sc.2 (x4 + 1).toNat).toInt), vr 1835] (z_cfg t1, I1, J1) Q → Go sc d mt_283 704 [vr 56, vr 42, vr 1835, vr 3383, vi x4, v5, v6] [vi x5] (z_cfg t1, I1, J1) Q := by
    intro t1 I1 J1 x5 hg
    refine b283_704 ⟨by omega, by omega, by omega, fun c0 => ?_, fun c0 => ?_⟩
    · rcases hlb with ⟨q, z⟩ | ⟨q, z⟩
      · subst q; exact hg
      · exact absurd c0 z
    · rcases hlb with ⟨q, z⟩ | ⟨q, z⟩
      · exact absurd z c0
      · subst q; exact hg
  refine c144 (by omega) (fun d1 e1 => b144_0 (c145 (by omega) (fun d2 e2 => c_safe (by omega) hC (wIn _ _) (wIn _ _) (fun z t1 I1 J1 C1 f1 u1 => z_kx (ls' := [vr 42, vi ((sc.2 (x4 + 1).toNat).toInt), vi ((sc.2 (x4 + 2).toNat).toInt), vi ((lb.toNat : Nat) : Int), vr 3383, vn]) rfl rfl (b144_17 (kb _ _ _ _ (b283_733 ?_)))) (fun z t1 I1 J1 C1 f1 u1 => Go_w1 (b144_10 ⟨wr_in _, ⟨by decide, by decide⟩, kb _ _ _ _ (b283_733 ?_)⟩)))))
  · refine c230 (by omega) (fun d3 e3 => r_safe (by omega) (hR.cf f1) (wIn _ _) (wIn _ _) (fun _ I2 J2 R2 g2 z2 => b283_736 (c185 (by omega) (fun d4 e4 => b185_0 (b283_742 ?_)))) (fun z' => absurd z' z))
    rw [z2]
    exact ⟨⟨by decide, by decide⟩, ⟨by decide, by decide⟩, fun _ => ⟨fun q => absurd q (by decide), fun _ => b283_766 (nx _ _ _ _ _ _ _ ⟨C1.rf g2, R2, hP⟩ (by omega) u1)⟩, fun q => absurd rfl q⟩
  · refine c230 (by omega) (fun d3 e3 => r_safe (by omega) (hR.cf f1) (wIn _ _) (wIn _ _) (fun z' => absurd z z') (fun _ I2 J2 R2 g2 z2 => Go_w1 (b283_736 (c185 (by omega) (fun d4 e4 => b185_0 (b283_742 ?_))))))
    have ej := ej_of g2
    rw [z2]
    exact ⟨⟨by decide, by decide⟩, ⟨by decide, by decide⟩, fun _ => ⟨fun _ => ⟨wr_in _, ⟨by rw [ej]; exact inL_of (wr_in _), inL_of (wr_in _)⟩, fun _ => b283_766 (nx _ _ _ _ _ _ _ ⟨C1.rf g2, R2, hP⟩ (by omega) u1), fun q => absurd (by rw [ej]; exact zlc_s) q⟩, fun q => absurd rfl q⟩, fun q => absurd rfl q⟩
end
