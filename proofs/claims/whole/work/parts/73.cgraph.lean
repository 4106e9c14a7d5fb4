/-! ===== rows by reference; the class's search and new states ===== -/
section
variable {sc : mS} {d : Nat} {M : mM} {pc s : Nat} {ls st : List zV} {l : zL} {I J : Nat → Nat → Int} {Q : zR → zW → Prop} {a n : Nat} {i x : Int}
theorem s_aln (hc : m_Mc M pc = some (.arraylength, 1, [])) (hk : a % 32 = 20) (hN : z_fN l a = some n) (k : Go sc d M (pc + 1) ls (vi (n : Int) :: st) (z_cfgL l s, I, J) Q) : Go sc d M pc ls (vr a :: st) (z_cfgL l s, I, J) Q := by
  obtain ⟨u, e, hu⟩ := z_aln_m (sc := sc) (st := vr a :: st) (w := (l, s, I, J)) (k := fun u => u = vi (n : Int) :: st) (by
    show cond (Nat.ble 20 (a % 32) && Nat.blt (a % 32) 24) (match z_fN l a with
      | some n => (vi (n : Int) :: st = vi _ :: st)
      | none => False) _
    rw [hk, hN]
    rfl)
  subst hu
  exact Go_step (w := z_x (l, s, I, J)) (w' := z_x (l, s, I, J)) (by simp only [m_step, hc, m_nx, e]) k
theorem s_iald (hc : m_Mc M pc = some (.iaload, 1, [])) (hk : a % 32 = 20) (hN : z_fN l a = some n) (hn : n ≤ 60000) (h0 : 0 ≤ i) (h1 : i < n) (k : Go sc d M (pc + 1) ls (vi (I a i.toNat) :: st) (z_cfgL l s, I, J) Q) : Go sc d M pc ls (vi i :: vr a :: st) (z_cfgL l s, I, J) Q := by
  obtain ⟨u, e, hu⟩ := z_ail_m (sc := sc) (st := vi i :: vr a :: st) (w := (l, s, I, J)) (k := fun u => u = vi (I a i.toNat) :: st) (by
    show cond (Nat.beq (a % 32) 20) (z_ar l a (fun n => (0 ≤ i ∧ i < (n : Int)) ∧ (vi (I a i.toNat) :: st = vi (I a i.toNat) :: st))) _
    rw [hk]
    show z_ar l a _
    unfold z_ar
    rw [hN]
    dsimp only
    rw [Nat.ble_eq_true_of_le hn]
    exact ⟨⟨h0, h1⟩, rfl⟩)
  subst hu
  exact Go_step (w := z_x (l, s, I, J)) (w' := z_x (l, s, I, J)) (by simp only [m_step, hc, m_nx, e]) k
theorem s_iast (hc : m_Mc M pc = some (.iastore, 1, [])) (hk : a % 32 = 20) (hN : z_fN l a = some n) (hn : n ≤ 60000) (h0 : 0 ≤ i) (h1 : i < n) (k : Go sc d M (pc + 1) ls st (z_cfgL l s, z_u I a i.toNat x, J) Q) : Go sc d M pc ls (vi x :: vi i :: vr a :: st) (z_cfgL l s, I, J) Q := by
  obtain ⟨u, w', e, hu, hw⟩ := z_ais_m (st := vi x :: vi i :: vr a :: st) (w := (l, s, I, J)) (k := fun u w' => u = st ∧ w' = x_wI (l, s, I, J) a i.toNat x) (by
    show cond (Nat.beq (a % 32) 20) (z_ar l a (fun n => (0 ≤ i ∧ i < (n : Int)) ∧ _)) _
    rw [hk]
    show z_ar l a _
    unfold z_ar
    rw [hN]
    dsimp only
    rw [Nat.ble_eq_true_of_le hn]
    exact ⟨⟨h0, h1⟩, rfl, rfl⟩)
  subst hu hw
  exact Go_step (w := z_x (l, s, I, J)) (w' := z_x (x_wI (l, s, I, J) a i.toNat x)) (by simp only [m_step, hc, m_nw2, e]) k
end
section
variable {sc : mS} {d : Nat} {t : zT} {I J : Nat → Nat → Int} {Q : zR → zW → Prop} {D : tD}
theorem k11loop {a n : Nat} {v : Int} (hk : (a + 1) % 32 = 20) (hN : z_fN (z_tab t ++ t_l t) (a + 1) = some n) (hn : n ≤ 60000) (h : ∀ I', (∀ j, j < n → I' (a + 1) j = v) → (∀ i, ¬ i = a + 1 → I' i = I i) → Q (.inl none) (z_cfg t, I', J)) :
    ∀ (m i : Nat) (I1 : Nat → Nat → Int), i + m = n → (∀ j, j < i → I1 (a + 1) j = v) → (∀ q, ¬ q = a + 1 → I1 q = I q) → Go sc d mt_11 5 [vr (a + 1), vi v, vi (i : Int), vi (n : Int)] [] (z_cfg t, I1, J) Q := by
  intro m
  induction m with
  | zero =>
    intro i I1 hi h1 h2
    refine z_sound (f := false) (cuts := [5, 13]) 20 5 _ _ (z_tab t ++ t_l t, t_s t, I1, J) (show inR (i : Int) ∧ inR (n : Int) ∧ (((i : Int) < (n : Int) → Go sc d mt_11 13 [vr (a + 1), vi v, vi (i : Int), vi (n : Int)] [vi v, vi (i : Int), vr (a + 1)] (z_cfg t, I1, J) Q) ∧ (¬ (i : Int) < (n : Int) → Q (.inl none) (z_cfg t, I1, J))) from ?_)
    exact ⟨⟨by omega, by omega⟩, ⟨by omega, by omega⟩, fun c => by omega, fun _ => h I1 (fun j hj => h1 j (by omega)) h2⟩
  | succ m ih =>
    intro i I1 hi h1 h2
    refine z_sound (f := false) (cuts := [5, 13]) 20 5 _ _ (z_tab t ++ t_l t, t_s t, I1, J) (show inR (i : Int) ∧ inR (n : Int) ∧ (((i : Int) < (n : Int) → Go sc d mt_11 13 [vr (a + 1), vi v, vi (i : Int), vi (n : Int)] [vi v, vi (i : Int), vr (a + 1)] (z_cfg t, I1, J) Q) ∧ (¬ (i : Int) < (n : Int) → Q (.inl none) (z_cfg t, I1, J))) from ?_)
    refine ⟨⟨by omega, by omega⟩, ⟨by omega, by omega⟩, fun _ => ?_, fun c => by omega⟩
    refine s_iast (l := z_tab t ++ t_l t) (s := t_s t) rfl hk hN hn (by omega) (by omega) ?_
    rw [Int.toNat_natCast]
    refine z_sound (f := false) (cuts := [5, 13]) 20 14 _ _ (z_tab t ++ t_l t, t_s t, z_u I1 (a + 1) i v, J) (show Go sc d mt_11 5 [vr (a + 1), vi v, vi ((i : Int) + 1), vi (n : Int)] [] (z_cfg t, z_u I1 (a + 1) i v, J) Q from ?_)
    refine ih (i + 1) _ (by omega) (fun j hj => ?_) (fun q hq => ?_)
    · rw [zu_at]
      by_cases e : j = i
      · rw [if_pos e]
      · rw [if_neg e]; exact h1 j (by omega)
    · rw [zu_ne hq]; exact h2 q hq
/-- Arrays.fill -/
theorem k11 {a n : Nat} {v : Int} (hd : 1 ≤ d) (hk : (a + 1) % 32 = 20) (hN : z_fN (z_tab t ++ t_l t) (a + 1) = some n) (hn : n ≤ 60000) {K : zR → zW → Prop} (h : ∀ I', (∀ j, j < n → I' (a + 1) j = v) → (∀ i, ¬ i = a + 1 → I' i = I i) → K (.inl none) (z_cfg t, I', J)) : Cl sc d 11 [vr (a + 1), vi v] (z_cfg t, I, J) K := by
  refine Cl_of rfl hd (fun d' _ => ?_)
  show Go sc d' mt_11 0 [vr (a + 1), vi v, vn, vn] [] (z_cfg t, I, J) K
  refine z_sound (f := false) (cuts := [3, 5, 13]) 20 0 _ _ (z_tab t ++ t_l t, t_s t, I, J) (show Go sc d' mt_11 3 [vr (a + 1), vi v, vi 0, vn] [vr (a + 1)] (z_cfg t, I, J) K from ?_)
  refine s_aln (l := z_tab t ++ t_l t) (s := t_s t) rfl hk hN ?_
  refine z_sound (f := false) (cuts := [5, 13]) 20 4 _ _ (z_tab t ++ t_l t, t_s t, I, J) (show Go sc d' mt_11 5 [vr (a + 1), vi v, vi 0, vi (n : Int)] [] (z_cfg t, I, J) K from ?_)
  exact k11loop hk hN hn h n 0 I (by omega) (fun j hj => absurd hj (by omega)) (fun _ _ => rfl)
/-! the search for a state -/
theorem zush_v (x : Int) : ∃ n : Nat, n < 4096 ∧ zush x 20 = (n : Int) := by
  refine ⟨(Int32.ofInt x).toUInt32.toNat / 2 ^ 20, ?_, ?_⟩
  · have := (Int32.ofInt x).toUInt32.toNat_lt
    omega
  · have hlt := (Int32.ofInt x).toUInt32.toNat_lt
    refine zval ?_ (by omega)
    show ((Int32.ofInt x).toUInt32 >>> ((Int32.ofInt 20).toUInt32 &&& Int32.toUInt32 31)).toNat = _
    rw [UInt32.toNat_shiftRight, show ((Int32.ofInt 20).toUInt32 &&& Int32.toUInt32 31).toNat % 32 = 20 from by decide, Nat.shiftRight_eq_div_pow]
def hC (s : Nat) : Nat := (zush ((s : Int) * z_i32 2654435761) 20).toNat
theorem hC_v (s : Nat) : hC s < 4096 ∧ zush ((s : Int) * z_i32 2654435761) 20 = (hC s : Int) := by
  obtain ⟨n, h1, h2⟩ := zush_v ((s : Int) * z_i32 2654435761)
  unfold hC
  rw [h2]
  exact ⟨by omega, rfl⟩
/-- the class's rows of states and of places -/
def CS (I : Nat → Nat → Int) (n : Nat) (X T : Nat → Nat) : Prop := n ≤ 2000 ∧ (∀ k, k < n → I 1108 k = X k ∧ X k < 4194304) ∧ (∀ i, i < 4096 → I 1236 i = T i) ∧ pbOk 4096 n T (fun k => hC (X k))
theorem step4096 (x : Nat) (hx : x < 4096) : (((x : Int) + 1) - Int.tdiv ((x : Int) + 1) 4096 * 4096) = (((x + 1) % 4096 : Nat) : Int) := by
  rw [Int.tdiv_eq_ediv_of_nonneg (by omega)]
  omega
theorem k39loop {n s j : Nat} {X T : Nat → Nat} (hS : CS I n X T) (hs : s < 4194304) (hj : j < 4096) (hstop : T ((hC s + j) % 4096) = 0 ∨ (¬ T ((hC s + j) % 4096) = 0 ∧ X (T ((hC s + j) % 4096) - 1) = s)) (hall : ∀ j', j' < j → ¬ T ((hC s + j') % 4096) = 0 ∧ ¬ X (T ((hC s + j') % 4096) - 1) = s) (h : Q (.inl (some (vi (((hC s + j) % 4096 : Nat) : Int)))) (z_cfg t, I, J)) :
    ∀ (m i : Nat) (v4 : zV), i + m = j → Go sc d mt_39 10 [vr 1057, vi (s : Int), vi (((hC s + i) % 4096 : Nat) : Int), vi (i : Int), v4] [] (z_cfg t, I, J) Q := by
  obtain ⟨s1, s2, s3, s4⟩ := hS
  intro m
  induction m with
  | zero =>
    intro i v4 hi
    have : i = j := by omega
    subst this
    have hlt : (hC s + i) % 4096 < 4096 := Nat.mod_lt _ (by omega)
    have hT := s4.1 _ hlt
    refine b39_10 ?_
    rw [Int.toNat_natCast, s3 _ hlt]
    refine ⟨⟨by omega, by omega⟩, fun _ => ⟨⟨by omega, by omega⟩, ⟨by omega, by omega⟩, fun _ => h, fun c => ⟨fun c2 => ?_, fun _ => h⟩⟩, fun c => by omega⟩
    rw [show (((T ((hC s + i) % 4096) : Nat) : Int) - 1).toNat = T ((hC s + i) % 4096) - 1 by omega]
    have g := s2 (T ((hC s + i) % 4096) - 1) (by omega)
    rw [g.1]
    refine ⟨⟨by omega, by omega⟩, ⟨by omega, by omega⟩, fun _ => h, fun c3 => ?_⟩
    rcases hstop with q | q
    · omega
    · exact absurd (congrArg (fun x : Nat => (x : Int)) q.2) c3
  | succ m ih =>
    intro i v4 hi
    have hlt : (hC s + i) % 4096 < 4096 := Nat.mod_lt _ (by omega)
    have hT := s4.1 _ hlt
    obtain ⟨n1, n2⟩ := hall i (by omega)
    refine b39_10 ?_
    rw [Int.toNat_natCast, s3 _ hlt]
    refine ⟨⟨by omega, by omega⟩, fun _ => ⟨⟨by omega, by omega⟩, ⟨by omega, by omega⟩, fun c => by omega, fun c => ⟨fun c2 => ?_, fun c2 => by omega⟩⟩, fun c => by omega⟩
    rw [show (((T ((hC s + i) % 4096) : Nat) : Int) - 1).toNat = T ((hC s + i) % 4096) - 1 by omega]
    have g := s2 (T ((hC s + i) % 4096) - 1) (by omega)
    rw [g.1]
    refine ⟨⟨by omega, by omega⟩, ⟨by omega, by omega⟩, fun c3 => absurd (by omega) n2, fun _ => ⟨⟨⟨by omega, by omega⟩, ⟨by decide, by decide⟩, by decide⟩, ?_⟩⟩
    rw [step4096 _ hlt, show ((hC s + i) % 4096 + 1) % 4096 = (hC s + (i + 1)) % 4096 by omega]
    exact ih (i + 1) _ (by omega)
theorem k39 {x1 : Int} {n s : Nat} {X T : Nat → Nat} (e1 : x1 = s) (hS : CS I n X T) (hs : s < 4194304) (h : ∀ j, j < 4096 → (T ((hC s + j) % 4096) = 0 ∨ (¬ T ((hC s + j) % 4096) = 0 ∧ X (T ((hC s + j) % 4096) - 1) = s)) → (∀ j', j' < j → ¬ T ((hC s + j') % 4096) = 0 ∧ ¬ X (T ((hC s + j') % 4096) - 1) = s) → Q (.inl (some (vi (((hC s + j) % 4096 : Nat) : Int)))) (z_cfg t, I, J)) : Go sc d mt_39 0 [vr 1057, vi x1, vn, vn, vn] [] (z_cfg t, I, J) Q := by
  subst e1
  have hS1 := hS.1
  obtain ⟨j, j1, j2, j3⟩ := pb_stop hS.2.2.2 (by omega) (hC s) (fun i => X i = s)
  refine b39_0 ?_
  rw [(hC_v s).2]
  have := k39loop (sc := sc) (d := d) (t := t) (J := J) hS hs j1 j2 j3 (h j j1 j2 j3) j 0 vn (by omega)
  rw [Nat.add_zero, Nat.mod_eq_of_lt (hC_v s).1] at this
  exact this
def fI (X : Nat → Nat) (n s : Nat) : Int := match fnd X n s with
  | some i => (i : Int)
  | none => -1
theorem k53 {x1 : Int} {n s : Nat} {X T : Nat → Nat} (e1 : x1 = s) (hd : 1 ≤ d) (hS : CS I n X T) (hX : ∀ a b, a < n → b < n → X a = X b → a = b) (hs : s < 4194304) (h : Q (.inl (some (vi (fI X n s)))) (z_cfg t, I, J)) : Go sc d mt_53 0 [vr 1057, vi x1] [] (z_cfg t, I, J) Q := by
  subst e1
  refine b53_0 (c39 hd (fun d' _ => k39 rfl hS hs (fun j j1 j2 j3 => ?_)))
  have hlt : (hC s + j) % 4096 < 4096 := Nat.mod_lt _ (by omega)
  have hT := hS.2.2.2.1 _ hlt
  have hS1 := hS.1
  refine b53_9 ⟨⟨by omega, by omega⟩, ?_⟩
  rw [Int.toNat_natCast, hS.2.2.1 _ hlt]
  unfold fI at h
  cases hf : fnd X n s with
  | none =>
    rw [hf] at h
    rcases j2 with q | q
    · rw [q]; exact h
    · exact absurd q.2 (fnd_none hf _ (by omega))
  | some i =>
    rw [hf] at h
    obtain ⟨f1, f2⟩ := fnd_some hf
    rcases j2 with q | q
    · exfalso
      refine pb_has hS.2.2.2 f1 (by rw [f2]) j1 q (fun j' hj' e => ?_)
      have := (j3 j' hj').2
      rw [e] at this
      exact this f2
    · have := hX _ _ (by omega) f1 (q.2.trans f2.symm)
      rw [show ((T ((hC s + j) % 4096) : Nat) : Int) - 1 = (i : Int) by omega]
      exact h
end
