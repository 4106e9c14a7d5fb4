/-! every method's words stand where m_MT says, but those that catch -/
def m_sl (k : Nat) : List (mM × (Nat × Nat × Nat × Nat × Nat × Nat)) := ((m_Gl.zip m_MT).drop (20 * k)).take 20
def m_sok (q : mM × (Nat × Nat × Nat × Nat × Nat × Nat)) : Bool := q.2.2.2.2.2.2 == 3 || ((!(m_Mh q.1).isEmpty) || m_mok q.1 q.2)
theorem ms_0 : (m_sl 0).all m_sok = true := by decide +kernel
theorem ms_1 : (m_sl 1).all m_sok = true := by decide +kernel
theorem ms_2 : (m_sl 2).all m_sok = true := by decide +kernel
theorem ms_3 : (m_sl 3).all m_sok = true := by decide +kernel
theorem ms_4 : (m_sl 4).all m_sok = true := by decide +kernel
