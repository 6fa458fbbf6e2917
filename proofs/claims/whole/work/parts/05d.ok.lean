theorem m_mg11_ok : m_mg11.all m_mchk = true := by decide +kernel
theorem m_mg12_ok : m_mg12.all m_mchk = true := by decide +kernel
theorem m_mg13_ok : m_mg13.all m_mchk = true := by decide +kernel
