theorem m_fl_ok : m_fl.all m_fchk = true := by decide +kernel
theorem m_gs_ok : m_gs.all m_gchk = true := by decide +kernel
theorem m_ml_ok : m_ml.all m_lchk = true := by decide +kernel
theorem m_ac_ok : m_wd m_acN = some (.native arraycopyName) ∧ m_wd m_acS = some (.static arraycopyName) ∧ m_wd m_acI = some (.initialized "java/lang/System") := by decide +kernel
