/-! rows of the law hold, g -/
theorem rl_9 : ((mr_283.drop 432).take 48).all (m_rok2 13 mt_283) = true := by decide +kernel
theorem rl_10 : ((mr_283.drop 480).take 48).all (m_rok2 13 mt_283) = true := by decide +kernel
theorem rl_11 : ((mr_283.drop 528).take 48).all (m_rok2 13 mt_283) = true := by decide +kernel
theorem rl_12 : ((mr_283.drop 576).take 48).all (m_rok2 13 mt_283) = true := by decide +kernel
theorem rl_13 : ((mr_283.drop 624).take 48).all (m_rok2 13 mt_283) = true := by decide +kernel
