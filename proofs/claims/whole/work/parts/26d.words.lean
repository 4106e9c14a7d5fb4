/-! every method's words, on -/
theorem mf_40 : (m_sf 40).all m_sok = true := by decide +kernel
theorem mf_41 : (m_sf 41).all m_sok = true := by decide +kernel
theorem mf_42 : (m_sf 42).all m_sok = true := by decide +kernel
theorem mf_43 : (m_sf 43).all m_sok = true := by decide +kernel
theorem mf_44 : (m_sf 44).all m_sok = true := by decide +kernel
theorem mf_45 : (m_sf 45).all m_sok = true := by decide +kernel
