theorem m_mg14_ok : m_mg14.all m_mchk = true := by decide +kernel
theorem m_mg15_ok : m_mg15.all m_mchk = true := by decide +kernel
theorem m_mg16_ok : m_mg16.all m_mchk = true := by decide +kernel
theorem m_mg17_ok : m_mg17.all m_mchk = true := by decide +kernel
