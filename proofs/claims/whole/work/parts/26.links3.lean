/-- every method's words stand where m_MT says, but those of java/lang/Math (its name is not plain: a member of the JDK, to be taken by the kit's own rows) and those that catch -/
theorem m_MT_ok : (m_Gl.zip m_MT).all (fun q => q.2.2.2.2.2.2 == 3 || ((!(m_Mh q.1).isEmpty) || (decide ((m_My q.1).cls = "java/lang/Math") || m_mok q.1 q.2))) = true := by decide +kernel
