/-! the links hold -/
def m_own (c : Nat) : String := m_owns.getD c ""
def m_lok (own : String) (q : mLk) : Bool := match m_G q.2.2.1, m_MT[q.2.2.1]? with
  | some M, some t => decide (t.2.2.2.2.2 = q.2.1) && (match q.2.1 with
    | 0 => decide (q.2.2.2.1 = t.1 + 1) && (decide (1 ≤ q.2.2.2.2.1) && (decide ((vwCl[q.2.2.2.2.1 - 1]?).map (fun r => r.1) = some (m_My M).cls) && m_is q.2.2.2.2.2 (Cond.methodLink own q.1 (m_My M))))
    | 1 => decide (q.2.2.2.1 = t.1) && m_is q.2.2.2.2.2 (Cond.methodLink own q.1 (m_My M))
    | 2 => decide (q.2.2.2.1 = t.1 + 1) && (decide (1 ≤ q.2.2.2.2.1) && (m_is q.2.2.2.2.2 (Cond.methodLink own q.1 (m_My M)) || (decide (own = "FerryHall") && decide ((q.1, m_My M) ∈ m_nst))))
    | _ => false)
  | _, _ => false
theorem m_FL_ok : (List.range 17).all (fun c => (m_FLt.getD c []).all (m_fok (m_own c))) = true := by decide +kernel
theorem m_NL_ok : (List.range 17).all (fun c => (m_NLt.getD c []).all (m_nok (m_own c))) = true := by decide +kernel
theorem m_CL_ok : (List.range 17).all (fun c => (m_CLt.getD c []).all (m_cok (m_own c))) = true := by decide +kernel
theorem m_OL_ok : (List.range 17).all (fun c => (m_OLt.getD c []).all (m_ook (m_own c))) = true := by decide +kernel
