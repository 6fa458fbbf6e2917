theorem m_mg8_ok : m_mg8.all m_mchk = true := by decide +kernel
theorem m_mg9_ok : m_mg9.all m_mchk = true := by decide +kernel
theorem m_mg10_ok : m_mg10.all m_mchk = true := by decide +kernel
