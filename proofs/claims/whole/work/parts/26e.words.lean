/-! every method's words, on -/
theorem mf_46 : (m_sf 46).all m_sok = true := by decide +kernel
theorem mf_47 : (m_sf 47).all m_sok = true := by decide +kernel
theorem mf_48 : (m_sf 48).all m_sok = true := by decide +kernel
theorem mf_49 : (m_sf 49).all m_sok = true := by decide +kernel
theorem mf_50 : (m_sf 50).all m_sok = true := by decide +kernel
theorem mf_51 : (m_sf 51).all m_sok = true := by decide +kernel
