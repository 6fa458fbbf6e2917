theorem m_mg4_ok : m_mg4.all m_mchk = true := by decide +kernel
theorem m_mg5_ok : m_mg5.all m_mchk = true := by decide +kernel
theorem m_mg6_ok : m_mg6.all m_mchk = true := by decide +kernel
theorem m_mg7_ok : m_mg7.all m_mchk = true := by decide +kernel
