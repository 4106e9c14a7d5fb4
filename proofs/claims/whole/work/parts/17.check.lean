/-! how a method's table is checked -/
/-- a field's link: entry, kind, field, type, final, the word's place -/
abbrev mF : Type := Nat × Nat × Nat × Nat × Nat × Nat
/-- a call's link: entry, mode (0 virtual, 1 static, 2 special), method, values, receiver's kind, the word's place -/
abbrev mLk : Type := Nat × Nat × Nat × Nat × Nat × Nat
/-- the tables, each with its length -/
def m_segs : List (Nat × List Cond) := [(137, k2_sels lw_privs), (240, tables_1_1), (240, tables_1_2), (240, tables_1_3), (240, tables_1_4), (240, tables_1_5), (240, tables_1_6), (240, tables_1_7), (240, tables_1_8), (154, tables_1_9)]
def m_at (i : Nat) (l : List (Nat × List Cond)) : Option Cond := match l with
  | [] => none
  | q :: r => match Nat.blt i q.1 with
    | true => q.2[i]?
    | false => m_at (i - q.1) r
theorem m_at_s : ∀ (l : List (Nat × List Cond)) (i : Nat) (w : Cond), m_at i l = some w → ∃ q ∈ l, w ∈ q.2 := by
  intro l
  induction l with
  | nil => intro i w h; cases h
  | cons a t ih =>
    intro i w h
    unfold m_at at h
    split at h
    · exact ⟨a, List.mem_cons_self, List.mem_of_getElem? h⟩
    · obtain ⟨q, h1, h2⟩ := ih _ _ h
      exact ⟨q, List.mem_cons_of_mem _ h1, h2⟩
theorem m_seg_in : ∀ q ∈ m_segs, ∀ w ∈ q.2, w ∈ lw_tbl := by
  intro q hq w hw
  simp only [m_segs, List.mem_cons, List.not_mem_nil, or_false] at hq
  show w ∈ k2_sels lw_privs ++ tables_1
  simp only [tables_1, List.mem_append]
  rcases hq with rfl | rfl | rfl | rfl | rfl | rfl | rfl | rfl | rfl | rfl <;> simp only [] at hw <;> simp only [hw, true_or, or_true]
theorem m_mem {i : Nat} {w : Cond} (h : m_at i m_segs = some w) (hg : goodWord w = true) : w ∈ m_tbl := by
  obtain ⟨q, h1, h2⟩ := m_at_s _ _ _ h
  exact List.mem_filter.mpr ⟨m_seg_in q h1 w h2, hg⟩
def m_is (i : Nat) (w : Cond) : Bool := decide (m_at i m_segs = some w) && goodWord w
theorem m_is_s {i : Nat} {w : Cond} (h : m_is i w = true) : w ∈ m_tbl := by
  unfold m_is at h
  rw [Bool.and_eq_true] at h
  exact m_mem (of_decide_eq_true h.1) h.2
def m_fok (own : String) (q : mF) : Bool := match vwCl[q.2.1]? with
  | some r => decide (q.2.2.1 < r.2.2) && (decide (q.2.2.2.1 = m_tc (m_ty q.2.1 q.2.2.1)) && (decide (q.2.2.2.1 < 4) && (decide ((r.2.1 q.2.2.1).1 = r.1) && (decide ((r.2.1 q.2.2.1).2.2.2 = (q.2.2.2.2.1 == 1)) && m_is q.2.2.2.2.2 (Cond.fieldLink own q.1 r.1 (r.2.1 q.2.2.1).2.1 (r.2.1 q.2.2.1).2.2.1)))))
  | none => false
theorem m_fok_s {own : String} {q : mF} (h : m_fok own q = true) : m_kF own q.1 q.2.1 q.2.2.1 q.2.2.2.1 ∧ ∀ r, vwCl[q.2.1]? = some r → (r.2.1 q.2.2.1).2.2.2 = (q.2.2.2.2.1 == 1) ∧ (r.2.1 q.2.2.1).1 = r.1 := by
  unfold m_fok at h
  split at h
  · rename_i r hr
    simp only [Bool.and_eq_true, decide_eq_true_eq] at h
    obtain ⟨h1, h2, h3, h4, h5, h6⟩ := h
    refine ⟨⟨r, hr, h1, h2, h3, h4, m_is_s h6⟩, fun r' hr' => ?_⟩
    cases hr.symm.trans hr'
    exact ⟨h5, h4⟩
  · cases h
def m_nok (own : String) (q : Nat × Nat × Nat × Nat × Nat) : Bool := match vwCl[q.2.1]? with
  | some r => m_is q.2.2.1 (Cond.classLink own q.1 r.1) && (m_is q.2.2.2.1 (Cond.instantiable r.1 r.2.2) && m_is q.2.2.2.2 (Cond.initialized r.1))
  | none => false
theorem m_nok_s {own : String} {q : Nat × Nat × Nat × Nat × Nat} (h : m_nok own q = true) : m_kN own q.1 q.2.1 := by
  unfold m_nok at h
  split at h
  · rename_i r hr
    simp only [Bool.and_eq_true] at h
    exact ⟨r, hr, m_is_s h.1, m_is_s h.2.1, m_is_s h.2.2⟩
  · cases h
def m_cok (own : String) (q : Nat × Nat × Nat × Nat) : Bool := match q.2.1 with
  | 0 => m_is q.2.2.2 (Cond.constant own q.1 (Int32.ofNat q.2.2.1))
  | 1 => match m_strs[q.2.2.1 / 32 - 1]? with
    | some r => decide (r.1 = own) && (decide (r.2.1 = q.1) && decide (q.2.2.1 = 32 * (q.2.2.1 / 32 - 1 + 1) + 25))
    | none => false
  | 2 => m_is q.2.2.2 (Cond.constantLong own q.1 (Int64.ofNat q.2.2.1))
  | _ => false
def m_ook (own : String) (q : Nat × Nat) : Bool := m_is q.2 (Cond.methodLink own q.1 Lib.objectInit)
/-- numbers of one method's words -/
def m_mok (M : mM) (t : Nat × Nat × Nat × Nat × Nat × Nat) : Bool :=
  m_is t.2.1 (Cond.code (m_My M) (m_Mb M) (m_Ml M) (m_Mr M)) && (m_is t.2.2.1 (Cond.initialized (m_My M).cls) && (decide ((m_My M).cls ≠ "java/lang/invoke/MethodHandle") && (decide ((m_My M).cls ≠ "java/lang/invoke/VarHandle") && (decide ((parseMethodDescriptor (m_My M).desc).map (fun d => d.parameters.length) = some t.1) && (plainName (m_My M).cls && (decide (m_Ml M ≤ 40) && ((m_Mh M).isEmpty &&
  (match t.2.2.2.2.2 with
    | 0 => m_is t.2.2.2.1 (Cond.instanceMethod (m_My M)) && (m_is t.2.2.2.2.1 (Cond.selects (m_My M).cls (m_My M) (m_My M)) && decide (t.1 + 1 ≤ m_Ml M))
    | 1 => m_is t.2.2.2.1 (Cond.static (m_My M)) && decide (t.1 ≤ m_Ml M)
    | 2 => m_is t.2.2.2.1 (Cond.instanceMethod (m_My M)) && (decide (t.1 + 1 ≤ m_Ml M) && (decide ((m_My M).name = "<init>") && decide (m_Mr M = none)))
    | _ => false))))))))
theorem m_mok_s {M : mM} {t : Nat × Nat × Nat × Nat × Nat × Nat} (h : m_mok M t = true) : m_kB M t.1 ∧ (t.2.2.2.2.2 = 0 → Cond.instanceMethod (m_My M) ∈ m_tbl ∧ Cond.selects (m_My M).cls (m_My M) (m_My M) ∈ m_tbl ∧ t.1 + 1 ≤ m_Ml M) ∧ (t.2.2.2.2.2 = 1 → Cond.static (m_My M) ∈ m_tbl ∧ t.1 ≤ m_Ml M) ∧ (t.2.2.2.2.2 = 2 → Cond.instanceMethod (m_My M) ∈ m_tbl ∧ t.1 + 1 ≤ m_Ml M ∧ (m_My M).name = "<init>" ∧ m_Mr M = none) := by
  unfold m_mok at h
  simp only [Bool.and_eq_true, decide_eq_true_eq] at h
  obtain ⟨h1, h2, h3, h4, h5, h6, h7, h8, h9⟩ := h
  refine ⟨⟨m_is_s h1, m_is_s h2, ⟨h3, h4, h5⟩, h6, h7, List.isEmpty_iff.mp h8⟩, fun q => ?_, fun q => ?_, fun q => ?_⟩
  · rw [q] at h9
    simp only [Bool.and_eq_true, decide_eq_true_eq] at h9
    exact ⟨m_is_s h9.1, m_is_s h9.2.1, h9.2.2⟩
  · rw [q] at h9
    simp only [Bool.and_eq_true, decide_eq_true_eq] at h9
    exact ⟨m_is_s h9.1, h9.2⟩
  · rw [q] at h9
    simp only [Bool.and_eq_true, decide_eq_true_eq] at h9
    exact ⟨m_is_s h9.1, h9.2.1, h9.2.2.1, h9.2.2.2⟩
theorem m_lookup {α : Type} {l : List (Nat × α)} {k : Nat} {v : α} (h : l.lookup k = some v) : (k, v) ∈ l := by
  induction l with
  | nil => cases h
  | cons a t ih =>
    obtain ⟨i, x⟩ := a
    rw [List.lookup_cons] at h
    split at h
    · rename_i hq
      cases h
      have : k = i := by simpa using hq
      subst this
      exact List.mem_cons_self
    · exact List.mem_cons_of_mem _ (ih h)
