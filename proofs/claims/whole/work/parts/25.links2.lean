theorem m_ML_ok : (List.range 17).all (fun c => (m_MLt.getD c []).all (m_lok (m_own c))) = true := by decide +kernel
