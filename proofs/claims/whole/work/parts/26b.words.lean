/-! every method's words, on -/
theorem ms_5 : (m_sl 5).all m_sok = true := by decide +kernel
theorem ms_6 : (m_sl 6).all m_sok = true := by decide +kernel
theorem ms_7 : (m_sl 7).all m_sok = true := by decide +kernel
theorem ms_8 : (m_sl 8).all m_sok = true := by decide +kernel
