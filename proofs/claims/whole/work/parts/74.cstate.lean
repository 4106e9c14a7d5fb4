/-! ===== the class: a new state, who may leave, what fits ===== -/
def gg (D : tD) (X Dp : Nat → Nat) (n : Nat) : Int := match n with
  | 0 => -1
  | k + 1 => if gg D X Dp k = -1 then (if dGoal D (X k) = true then (Dp k : Int) else -1) else gg D X Dp k
theorem gg_cg {D : tD} {X X' Dp Dp' : Nat → Nat} {n : Nat} (h1 : ∀ i, i < n → X i = X' i) (h2 : ∀ i, i < n → Dp i = Dp' i) : gg D X Dp n = gg D X' Dp' n := by
  induction n with
  | zero => rfl
  | succ k ih =>
    unfold gg
    rw [ih (fun i hi => h1 i (by omega)) (fun i hi => h2 i (by omega)), h1 k (by omega), h2 k (by omega)]
theorem gg_in {D : tD} {X Dp : Nat → Nat} {n B : Nat} (h : ∀ i, i < n → Dp i ≤ B) : -1 ≤ gg D X Dp n ∧ gg D X Dp n ≤ B := by
  induction n with
  | zero => unfold gg; omega
  | succ k ih =>
    have := ih (fun i hi => h i (by omega))
    have := h k (by omega)
    unfold gg
    split
    · split <;> omega
    · omega
/-- the class's graph: states alone -/
def GS (I : Nat → Nat → Int) (D : tD) (n : Nat) (X Dp : Nat → Nat) : Prop := I 1057 3 = n ∧ (∃ T, CS I n X T) ∧ (∀ k, k < n → I 1140 k = Dp k ∧ Dp k ≤ 2000) ∧ I 1057 5 = gg D X Dp n
section
variable {sc : mS} {d : Nat} {t : zT} {I J : Nat → Nat → Int} {Q : zR → zW → Prop} {D : tD}
theorem upN_at {α : Type} (f : Nat → α) (k : Nat) (v : α) : upN f k v k = v := by unfold upN; rw [if_pos rfl]
theorem upN_ne {α : Type} {f : Nat → α} {k i : Nat} {v : α} (h : ¬ i = k) : upN f k v i = f i := by unfold upN; rw [if_neg h]
theorem k38 {x1 x2 : Int} {n s dp : Nat} {X Dp : Nat → Nat} (e1 : x1 = s) (e2 : x2 = dp) (hd : 2 ≤ d) (hCD : CD (t_gb t) I D) (hD : dOk D) (hG : GS I D n X Dp) (hn : n < 2000) (hs : s < 4194304) (hdp : dp ≤ 2000) (hno : ∀ i, i < n → ¬ X i = s)
    (h : ∀ I', (∀ a, ¬ a = 1057 → ¬ a = 1108 → ¬ a = 1140 → ¬ a = 1236 → I' a = I a) → (∀ k, ¬ k = 3 → ¬ k = 5 → I' 1057 k = I 1057 k) → GS I' D (n + 1) (upN X n s) (upN Dp n dp) → Q (.inl none) (z_cfg t, I', J)) : Go sc d mt_38 0 [vr 1057, vi x1, vi x2, vn] [] (z_cfg t, I, J) Q := by
  subst e1 e2
  obtain ⟨g1, ⟨T, hS⟩, g3, g4⟩ := hG
  have ggb := gg_in (D := D) (X := X) (Dp := Dp) (n := n) (B := 2000) (fun i hi => (g3 i hi).2)
  refine b38_0 ?_
  rw [g1, Int.toNat_natCast]
  refine ⟨⟨by omega, by omega⟩, fun _ => ⟨⟨by omega, by omega⟩, ?_⟩, fun c => by omega⟩
  -- the state and its depth are laid
  have hS1 : CS (z_u (z_u I 1108 n (s : Int)) 1140 n (dp : Int)) n X T := by
    refine ⟨hS.1, fun k hk => ?_, fun i hi => ?_, hS.2.2.2⟩
    · rw [zu_ne (by decide : ¬ 1108 = 1140), zu_nk (by omega)]
      exact hS.2.1 k hk
    · rw [zu_ne (by decide : ¬ 1236 = 1140), zu_ne (by decide : ¬ 1236 = 1108)]
      exact hS.2.2.1 i hi
  refine c39 (by omega) (fun d' _ => k39 rfl hS1 hs (fun j j1 j2 j3 => ?_))
  have hlt : (hC s + j) % 4096 < 4096 := Nat.mod_lt _ (by omega)
  have hfree : T ((hC s + j) % 4096) = 0 := by
    rcases j2 with q | q
    · exact q
    · have := hS.2.2.2.1 _ hlt
      exact absurd q.2 (hno _ (by omega))
  have r1 : ∀ k, z_u (z_u I 1108 n (s : Int)) 1140 n (dp : Int) 1057 k = I 1057 k := fun k => by rw [zu_ne (by decide : ¬ 1057 = 1140), zu_ne (by decide : ¬ 1057 = 1108)]
  -- what the memory is at the end, but for the goal's depth
  have fin : ∀ (gd : Int), gd = gg D (upN X n s) (upN Dp n dp) (n + 1) → ∀ I2 : Nat → Nat → Int, (∀ a, ¬ a = 1057 → I2 a = z_u (z_u (z_u I 1108 n (s : Int)) 1140 n (dp : Int)) 1236 ((hC s + j) % 4096) ((n : Int) + 1) a) → I2 1057 5 = gd → (∀ k, ¬ k = 5 → I2 1057 k = I 1057 k) → Q (.inl none) (z_cfg t, z_u I2 1057 3 ((I2 1057 3) + 1), J) := by
    intro gd hgd I2 hF h5 hk
    refine h _ (fun a h1 h2 h3 h4 => ?_) (fun k h1 h2 => ?_) ⟨?_, ⟨fun i => if i = (hC s + j) % 4096 then n + 1 else T i, ?_, fun k hk2 => ?_, fun i hi => ?_, ?_⟩, fun k hk2 => ?_, ?_⟩
    · rw [zu_ne h1, hF a h1, zu_ne h4, zu_ne h3, zu_ne h2]
    · rw [zu_nk h1, hk k h2]
    · rw [zu_same, hk 3 (by decide), g1]; omega
    · omega
    · rw [zu_ne (by decide : ¬ 1108 = 1057), hF 1108 (by decide), zu_ne (by decide : ¬ 1108 = 1236), zu_ne (by decide : ¬ 1108 = 1140), zu_at]
      by_cases e : k = n
      · rw [if_pos e, e, upN_at]; exact ⟨rfl, hs⟩
      · rw [if_neg e, upN_ne e]; exact hS.2.1 k (by omega)
    · rw [zu_ne (by decide : ¬ 1236 = 1057), hF 1236 (by decide), zu_at, zu_ne (by decide : ¬ 1236 = 1140), zu_ne (by decide : ¬ 1236 = 1108)]
      show _ = (((if i = (hC s + j) % 4096 then n + 1 else T i) : Nat) : Int)
      by_cases e : i = (hC s + j) % 4096
      · rw [if_pos e, if_pos e]; omega
      · rw [if_neg e, if_neg e]; exact hS.2.2.1 i hi
    · refine pb_add hS.2.2.2 (fun k hk2 => ?_) ?_ j1 (by omega) hfree (fun j' hj' => (j3 j' hj').1)
      · show hC (upN X n s k) = hC (X k)
        rw [upN_ne (by omega)]
      · show hC (upN X n s n) = hC s
        rw [upN_at]
    · rw [zu_ne (by decide : ¬ 1140 = 1057), hF 1140 (by decide), zu_ne (by decide : ¬ 1140 = 1236), zu_at]
      by_cases e : k = n
      · rw [if_pos e, e, upN_at]; exact ⟨rfl, hdp⟩
      · rw [if_neg e, upN_ne e, zu_ne (by decide : ¬ 1140 = 1108)]; exact g3 k (by omega)
    · rw [zu_nk (by decide : ¬ 5 = 3), h5, hgd]
  have hgn : gg D (upN X n s) (upN Dp n dp) (n + 1) = if gg D X Dp n = -1 then (if dGoal D s = true then (dp : Int) else -1) else gg D X Dp n := by
    show (if gg D (upN X n s) (upN Dp n dp) n = -1 then (if dGoal D (upN X n s n) = true then ((upN Dp n dp n : Nat) : Int) else -1) else gg D (upN X n s) (upN Dp n dp) n) = _
    rw [gg_cg (X' := X) (Dp' := Dp) (fun i hi => upN_ne (by omega)) (fun i hi => upN_ne (by omega)), upN_at, upN_at]
  refine b38_41 ⟨⟨by omega, by omega⟩, ?_⟩
  rw [r1 5, r1 3, g4, g1, Int.toNat_natCast]
  refine ⟨⟨by omega, by omega⟩, fun c => ?_, fun c => ?_⟩
  · rw [if_pos c] at hgn
    have hC2 : CD (t_gb t) (z_u (z_u (z_u I 1108 n (s : Int)) 1140 n (dp : Int)) 1236 ((hC s + j) % 4096) ((n : Int) + 1)) D := hCD.fr (by have := zmd_lt (t_gb t); rw [zu_ne (by omega), zu_ne (by omega), zu_ne (by omega)]) (fun k => by have := zmf_lt (t_gb t) k; rw [zu_ne (by omega), zu_ne (by omega), zu_ne (by omega)])
    refine c40 (by omega) (fun d' _ => k40 rfl (by omega) hC2 hD hs ?_)
    cases hg : dGoal D s with
    | false =>
      rw [hg, if_neg (by decide)] at hgn
      refine b38_70 ⟨⟨by decide, by decide⟩, fun _ => b38_78 (fin _ hgn.symm _ (fun a _ => rfl) ?_ (fun k hk => ?_)), fun c2 => absurd rfl c2⟩
      · rw [zu_ne (by decide : ¬ 1057 = 1236), r1, g4, c]
      · rw [zu_ne (by decide : ¬ 1057 = 1236), r1]
    | true =>
      rw [hg, if_pos rfl] at hgn
      refine b38_70 ⟨⟨by decide, by decide⟩, fun c2 => absurd c2 (by decide), fun _ => b38_78 (fin _ hgn.symm _ (fun a ha => zu_ne ha) ?_ (fun k hk => ?_))⟩
      · rw [zu_same]
      · rw [zu_nk hk, zu_ne (by decide : ¬ 1057 = 1236), r1]
  · rw [if_neg c] at hgn
    refine b38_78 (fin _ hgn.symm _ (fun a _ => rfl) ?_ (fun k hk => ?_))
    · rw [zu_ne (by decide : ¬ 1057 = 1236), r1, g4]
    · rw [zu_ne (by decide : ¬ 1057 = 1236), r1]
theorem k48 {x1 x2 : Int} {s b : Nat} (e1 : x1 = s) (e2 : x2 = b) (hd : 1 ≤ d) (hC : CD (t_gb t) I D) (hD : dOk D) (hs : s < 4194304) (hb : b < 2) (h : Q (.inl (some (vi ((decide (dLamp D = -1 ∨ llamp s = lberth s b)).toNat)))) (z_cfg t, I, J)) : Go sc d mt_48 0 [vr 1057, vi x1, vi x2] [] (z_cfg t, I, J) Q := by
  subst e1 e2
  refine b48_0 ?_
  rw [hC.2.2.2.1]
  have h1 := llamp_lt s
  have h2 := lberth_lt s b
  refine ⟨lamp_in hD, fun c => ?_, fun c => ?_⟩
  · rw [decide_eq_true (Or.inl c)] at h; exact h
  · refine c47 hd (fun d' _ => k47 rfl hs ?_)
    refine b48_15 (c45 hd (fun d' _ => k45 rfl rfl hs hb ?_))
    refine b48_20 ⟨⟨by omega, by omega⟩, ⟨by omega, by omega⟩, fun c2 => ?_, fun c2 => ?_⟩
    · rw [decide_eq_true (Or.inr (by omega))] at h; exact h
    · rw [decide_eq_false (fun z => z.elim c (fun q => c2 (by omega)))] at h; exact h
/-- a set that may go aboard -/
def fitB (D : tD) (act S ho lo : Nat) : Bool := dFits D S ho lo && decide (dBars D S (dS D) 1 (dAlong D) &&& act = 0)
theorem znz_b (b : Bool) : znz ((b.toNat : Nat) : Int) = ((b.toNat : Nat) : Int) := by cases b <;> rfl
/-- the class's row of what fits -/
def FT (I : Nat → Nat → Int) (D : tD) (act b ho lo : Nat) (m : Nat) : Prop := ∀ S, 1 ≤ S → S < m → S ≤ dAll D → I 1270 (b * 256 + S) = ((fitB D act S ho lo).toNat : Int)
theorem k26loop {b ho lo act : Nat} (hd : 3 ≤ d) (hgb : t_gb t = t_rb t) (hb : b < 2) (hho : ho < 2147483648) (hlo : lo < 2147483648) (hact : act < 4096)
    (h : ∀ I', (∀ a, ¬ a = 884 → ¬ a = 1044 → ¬ a = 1270 → I' a = I a) → (∀ j, (j < b * 256 ∨ b * 256 + 256 ≤ j) → I' 1270 j = I 1270 j) → RU t I' D → FT I' D act b ho lo 256 → Q (.inl none) (z_cfg t, I', J)) :
    ∀ (m S : Nat) (I1 : Nat → Nat → Int), S + m = dAll D + 1 → 1 ≤ S → (∀ a, ¬ a = 884 → ¬ a = 1044 → ¬ a = 1270 → I1 a = I a) → (∀ j, (j < b * 256 ∨ b * 256 + 256 ≤ j) → I1 1270 j = I 1270 j) → RU t I1 D → I1 1057 8 = act → FT I1 D act b ho lo S → Go sc d mt_26 3 [vr 1057, vi (b : Int), vi (ho : Int), vi (lo : Int), vi (S : Int)] [] (z_cfg t, I1, J) Q := by
  intro m
  induction m with
  | zero =>
    intro S I1 hS hS1 hF hF2 hU ha hT
    have hD := hU.2.2.2
    have hA := dAll_lt hD
    have hC : CD (t_gb t) I1 D := by rw [hgb]; exact hU.1
    refine b26_3 (c27 (by omega) (fun d' _ => k27 hC hD ?_))
    exact b26_12 ⟨⟨by omega, by omega⟩, ⟨by omega, by omega⟩, fun _ => h I1 hF hF2 hU (fun S' a b c => hT S' a (by omega) c), fun c => by omega⟩
  | succ m ih =>
    intro S I1 hS hS1 hF hF2 hU ha hT
    have hD := hU.2.2.2
    have hA := dAll_lt hD
    have hC : CD (t_gb t) I1 D := by rw [hgb]; exact hU.1
    refine b26_3 (c27 (by omega) (fun d' _ => k27 hC hD ?_))
    refine b26_12 ⟨⟨by omega, by omega⟩, ⟨by omega, by omega⟩, fun c => by omega, fun _ => ⟨⟨by omega, by omega⟩, fun _ => ?_, fun c => by omega⟩⟩
    refine c28 (by omega) (fun d' _ => k28 rfl rfl rfl (by omega) hU.2.1 hD (by omega) hho hlo ?_)
    rw [show ((b : Int) * 256) + (S : Int) = ((b * 256 + S : Nat) : Int) by omega]
    have put : ∀ (I2 : Nat → Nat → Int) (v : Bool), v = fitB D act S ho lo → (∀ a, ¬ a = 884 → ¬ a = 1044 → I2 a = I1 a) → RU t I2 D → Go sc d mt_26 86 [vr 1057, vi (b : Int), vi (ho : Int), vi (lo : Int), vi (S : Int)] [vi ((v.toNat : Nat) : Int), vi ((b * 256 + S : Nat) : Int), vr 1270] (z_cfg t, I2, J) Q := by
      intro I2 v hv hG hU2
      refine b26_86 ⟨⟨by omega, by omega⟩, ?_⟩
      rw [Int.toNat_natCast, znz_b]
      have hU3 : RU t (z_u I2 1270 (b * 256 + S) ((v.toNat : Nat) : Int)) D := by
        refine ⟨hU2.1.fr (by have := zmd_lt (t_rb t); rw [zu_ne (by omega)]) (fun k => by have := zmf_lt (t_rb t) k; rw [zu_ne (by omega)]), fun S' hS' => ?_, fun S' p q l z1 z2 z3 z4 z5 => ?_, hD⟩
        · rw [zu_ne (by decide : ¬ 916 = 1270), zu_ne (by decide : ¬ 948 = 1270), zu_ne (by decide : ¬ 980 = 1270), zu_ne (by decide : ¬ 1012 = 1270)]
          exact hU2.2.1 S' hS'
        · rw [zu_ne (by decide : ¬ 884 = 1270)]
          exact hU2.2.2.1 S' p q l z1 z2 z3 z4 z5
      refine ih (S + 1) _ (by omega) (by omega) (fun a h1 h2 h3 => ?_) (fun j hj => ?_) hU3 ?_ (fun S' h1 h2 h3 => ?_)
      · rw [zu_ne h3, hG a h1 h2, hF a h1 h2 h3]
      · rw [zu_nk (by omega), hG 1270 (by decide) (by decide), hF2 j hj]
      · rw [zu_ne (by decide : ¬ 1057 = 1270), hG 1057 (by decide) (by decide), ha]
      · rw [zu_at]
        by_cases e : S' = S
        · rw [if_pos (by omega), hv, e]
        · rw [if_neg (by omega), hG 1270 (by decide) (by decide)]
          exact hT S' h1 (by omega) h3
    have hno : fitB D act S ho lo = false → Go sc d mt_26 85 [vr 1057, vi (b : Int), vi (ho : Int), vi (lo : Int), vi (S : Int)] [vi ((b * 256 + S : Nat) : Int), vr 1270] (z_cfg t, I1, J) Q := fun hq => b26_85 (put I1 false hq.symm (fun _ _ _ => rfl) hU)
    cases hf : dFits D S ho lo with
    | false =>
      refine b26_46 ⟨⟨by decide, by decide⟩, fun _ => hno (by unfold fitB; rw [hf]; rfl), fun c => absurd rfl c⟩
    | true =>
      refine b26_46 ⟨⟨by decide, by decide⟩, fun c => absurd c (by decide), fun _ => ?_⟩
      rw [hC.1]
      refine c32 (by omega) (fun d' _ => k32 hC hD ?_)
      refine b26_70 (c33 (by omega) (fun d' _ => k33 (nb := 1) rfl rfl rfl rfl (by omega) hU (by omega) (Nat.le_refl _) (by omega) dAlong_le (fun I2 hF3 hU2 => ?_)))
      have g2 := dBars_lt hD S (dS D) 1 (dAlong D)
      refine b26_73 ?_
      rw [hF3 1057 (by decide) (by decide), ha, zand_n (by omega) (by omega)]
      refine ⟨fun c => put I2 true ?_ hF3 hU2, fun c => b26_85 (put I2 false ?_ hF3 hU2)⟩
      · unfold fitB
        rw [hf, decide_eq_true (by omega : dBars D S (dS D) 1 (dAlong D) &&& act = 0)]
        rfl
      · unfold fitB
        rw [hf, decide_eq_false (fun z => c (by rw [z]; rfl))]
        rfl
theorem k26 {x1 x2 x3 : Int} {b ho lo act : Nat} (e1 : x1 = b) (e2 : x2 = ho) (e3 : x3 = lo) (hd : 3 ≤ d) (hgb : t_gb t = t_rb t) (hU : RU t I D) (ha : I 1057 8 = act) (hb : b < 2) (hho : ho < 2147483648) (hlo : lo < 2147483648) (hact : act < 4096)
    (h : ∀ I', (∀ a, ¬ a = 884 → ¬ a = 1044 → ¬ a = 1270 → I' a = I a) → (∀ j, (j < b * 256 ∨ b * 256 + 256 ≤ j) → I' 1270 j = I 1270 j) → RU t I' D → FT I' D act b ho lo 256 → Q (.inl none) (z_cfg t, I', J)) : Go sc d mt_26 0 [vr 1057, vi x1, vi x2, vi x3, vn] [] (z_cfg t, I, J) Q := by
  subst e1 e2 e3
  exact b26_0 (k26loop hd hgb hb hho hlo hact h (dAll D) 1 I (by omega) (by omega) (fun _ _ _ _ => rfl) (fun _ _ => rfl) hU ha (fun S h1 h2 => by omega))
end
