/-! every method's words, five at a time -/
def m_sf (k : Nat) : List (mM × (Nat × Nat × Nat × Nat × Nat × Nat)) := ((m_Gl.zip m_MT).drop (5 * k)).take 5
theorem mf_36 : (m_sf 36).all m_sok = true := by decide +kernel
theorem mf_37 : (m_sf 37).all m_sok = true := by decide +kernel
theorem mf_38 : (m_sf 38).all m_sok = true := by decide +kernel
theorem mf_39 : (m_sf 39).all m_sok = true := by decide +kernel
