/-! the methods that catch -/
theorem m_cl13 : Cond.classLink "FerryHallLaw" 13 "java/lang/IllegalArgumentException" ∈ m_tbl := m_is_s (i := 1017) (by decide +kernel)
theorem m_cl18 : Cond.classLink "FerryHallLaw" 18 "java/util/NoSuchElementException" ∈ m_tbl := m_is_s (i := 1302) (by decide +kernel)
theorem m_ct_s {c e : Nat} (h : m_ct c e = true) : c ≠ 0 ∧ Cond.classLink "FerryHallLaw" c (m_exn e) ∈ m_tbl ∧ m_exn e ∈ m_cst := by
  unfold m_ct at h
  simp only [Bool.or_eq_true, Bool.and_eq_true, beq_iff_eq] at h
  rcases h with ⟨rfl, rfl⟩ | ⟨rfl, rfl⟩
  · exact ⟨by decide, m_cl13, by decide +kernel⟩
  · exact ⟨by decide, m_cl18, by decide +kernel⟩
theorem m_caP_of {l : Launch} {D : va_G} {cA : Nat → Nat} {b : Nat} {ex : Nat → Nat} {sc : mS} {M : mM} {r : Nat × Nat × Nat × Nat} (hrow : m_row l D cA b ex sc M) (hh : m_Mh M = [r]) (hcls : (m_My M).cls = "FerryHallLaw") : m_caP l D cA b ex sc M := by
  intro pc pc' ls ls' e0 h p e R s m args below meth c H locs cells slots Q lsC rest q ce hbd hL hcell hv hcl k
  obtain ⟨hx, hb, hr, hml, hts, hown, hnm, hlocks, htab, hKn⟩ := hbd
  have hcf : ∀ z : Nat × Nat × Nat × Nat, [r].find? (fun h => (decide (h.1 ≤ pc) && decide (pc < h.2.1)) && m_ct h.2.2.2 e0) = some z → z = r ∧ r.1 ≤ pc ∧ pc < r.2.1 ∧ m_ct r.2.2.2 e0 = true := by
    intro z hz
    have h1 := List.mem_singleton.mp (List.mem_of_find?_eq_some hz)
    have h2 := List.find?_some hz
    subst h1
    simp only [Bool.and_eq_true, decide_eq_true_eq] at h2
    exact ⟨rfl, h2.1.1, h2.1.2, h2.2⟩
  have go : r.1 ≤ pc → pc < r.2.1 → m_ct r.2.2.2 e0 = true → W p l e R s m args below meth c H locs cells slots Q (F0 m r.2.2.1 lsC [.ref q]) → vx_W p l e R s m args below meth c H locs cells slots Q (F0 m pc lsC rest) q := by
    intro g1 g2 g3 kk
    obtain ⟨c1, c2, c3⟩ := m_ct_s g3
    have hcast := hKn.2.2.2.2.2.2.2 _ c3
    refine m_catch (own := "FerryHallLaw") (E := m_exn e0) (ce := ce) (x := ⟨r.1, r.2.1, r.2.2.1, r.2.2.2⟩) (by rw [← hcls]; exact hown) (by rw [htab, hh]; rfl) ?_ c1 (hts _ c2) (va_Nw.use rfl hcast) hcell hv hcl kk
    simp only [covers, Bool.and_eq_true, decide_eq_true_eq]
    exact ⟨g1, g2⟩
  obtain ⟨lv, h1, h2⟩ := hL
  unfold m_hd at h
  split at h
  · cases h
  · rw [hh] at h
    dsimp only at h
    split at h
    · cases h
    · rename_i z hf
      obtain ⟨rfl, g1, g2, g3⟩ := hcf _ hf
      split at h
      · rename_i i len x hc
        split at h
        · rename_i hi
          cases h
          obtain ⟨hd, hlen, -⟩ := hrow _ _ _ _ hc
          have hl0 : len = 1 := hlen rfl
          subst hl0
          exact go g1 g2 g3 (lv_astore_n hx hb hd rfl h1 hi rfl (fun ls' hl => k ls' (m_L_st1n h2 hl)))
        · cases h
      · rename_i i len x hc
        split at h
        · rename_i hi
          cases h
          obtain ⟨hd, hlen, -⟩ := hrow _ _ _ _ hc
          have hl0 : len = 2 := hlen rfl
          subst hl0
          exact go g1 g2 g3 (lv_astore hx hb hd h1 hi rfl (fun ls' hl => k ls' (m_L_st1n h2 hl)))
        · cases h
      · cases h
/-- the words of a method that catches -/
def m_wck (M : mM) (t : Nat × Nat × Nat × Nat × Nat × Nat) : Bool :=
  m_is t.2.1 (Cond.codeWith (m_My M) (m_Mb M) (m_Ml M) (m_Mr M) (m_Mh M)) && (m_is t.2.2.1 (Cond.initialized (m_My M).cls) && (decide ((m_My M).cls = "FerryHallLaw") && (decide ((parseMethodDescriptor (m_My M).desc).map (fun d => d.parameters.length) = some t.1) && (decide (m_Ml M ≤ 40) && (m_is t.2.2.2.1 (Cond.static (m_My M)) && (decide (t.1 ≤ m_Ml M) && (decide (t.2.2.2.2.2 = 1) && decide ((m_Mh M).length = 1))))))))
theorem m_wck_s {M : mM} {t : Nat × Nat × Nat × Nat × Nat × Nat} (h : m_wck M t = true) : m_kBW M t.1 ∧ Cond.static (m_My M) ∈ m_tbl ∧ t.1 ≤ m_Ml M ∧ t.2.2.2.2.2 = 1 ∧ (∃ r, m_Mh M = [r]) ∧ (m_My M).cls = "FerryHallLaw" := by
  unfold m_wck at h
  simp only [Bool.and_eq_true, decide_eq_true_eq] at h
  obtain ⟨h1, h2, h3, h4, h5, h6, h7, h8, h9⟩ := h
  refine ⟨⟨m_is_s h1, m_is_s h2, ⟨by rw [h3]; decide +kernel, by rw [h3]; decide +kernel, h4⟩, by rw [h3]; decide +kernel, h5⟩, m_is_s h6, h7, h8, ?_, h3⟩
  cases hq : m_Mh M with
  | nil => rw [hq] at h9; cases h9
  | cons r t =>
    cases t with
    | nil => exact ⟨r, rfl⟩
    | cons r2 t2 =>
      rw [hq] at h9
      simp at h9
theorem m_W_ok : (m_Gl.zip m_MT).all (fun q => (m_Mh q.1).isEmpty || m_wck q.1 q.2) = true := by decide +kernel
