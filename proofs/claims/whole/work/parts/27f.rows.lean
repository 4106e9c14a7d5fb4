/-! rows of the law hold, f -/
theorem rl_0 : ((mr_283.drop 0).take 48).all (m_rok2 13 mt_283) = true := by decide +kernel
theorem rl_1 : ((mr_283.drop 48).take 48).all (m_rok2 13 mt_283) = true := by decide +kernel
theorem rl_2 : ((mr_283.drop 96).take 48).all (m_rok2 13 mt_283) = true := by decide +kernel
theorem rl_3 : ((mr_283.drop 144).take 48).all (m_rok2 13 mt_283) = true := by decide +kernel
theorem rl_4 : ((mr_283.drop 192).take 48).all (m_rok2 13 mt_283) = true := by decide +kernel
theorem rl_5 : ((mr_283.drop 240).take 48).all (m_rok2 13 mt_283) = true := by decide +kernel
theorem rl_6 : ((mr_283.drop 288).take 48).all (m_rok2 13 mt_283) = true := by decide +kernel
theorem rl_7 : ((mr_283.drop 336).take 48).all (m_rok2 13 mt_283) = true := by decide +kernel
theorem rl_8 : ((mr_283.drop 384).take 48).all (m_rok2 13 mt_283) = true := by decide +kernel
