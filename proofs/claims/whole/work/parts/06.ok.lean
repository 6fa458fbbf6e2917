theorem m_fl_ok : m_fl.all m_fchk = true := by decide +kernel
theorem m_gs_ok : m_gs.all m_gchk = true := by decide +kernel
