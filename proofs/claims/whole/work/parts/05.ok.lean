theorem m_fl_ok : m_fl.all (fun l => l.all m_fchk) = true := by decide +kernel
theorem m_gs_ok : m_gs.all (fun l => l.all m_gchk) = true := by decide +kernel
theorem m_ml_ok : m_ml.all (fun l => l.all m_lchk) = true := by decide +kernel
theorem m_ac_ok : m_wd m_acN = some (.native arraycopyName) ∧ m_wd m_acS = some (.static arraycopyName) ∧ m_wd m_acI = some (.initialized "java/lang/System") := by decide +kernel
theorem m_ma_ok : (m_wd m_maxS = some (.static Lib.Math.max.name) ∧ m_wd m_maxC = some (.code Lib.Math.max.name Lib.Math.max.code 2 (some .int))) ∧ (m_wd m_minS = some (.static Lib.Math.min.name) ∧ m_wd m_minC = some (.code Lib.Math.min.name Lib.Math.min.code 2 (some .int))) ∧ (m_wd m_absS = some (.static Lib.Math.abs.name) ∧ m_wd m_absC = some (.code Lib.Math.abs.name Lib.Math.abs.code 1 (some .int))) ∧ m_wd m_maI = some (.initialized "java/lang/Math") := by decide +kernel
theorem m_mg0_ok : m_mg0.all m_mchk = true := by decide +kernel
theorem m_mg1_ok : m_mg1.all m_mchk = true := by decide +kernel
theorem m_mg2_ok : m_mg2.all m_mchk = true := by decide +kernel
theorem m_mg3_ok : m_mg3.all m_mchk = true := by decide +kernel
theorem m_mg4_ok : m_mg4.all m_mchk = true := by decide +kernel
theorem m_mg5_ok : m_mg5.all m_mchk = true := by decide +kernel
theorem m_mg6_ok : m_mg6.all m_mchk = true := by decide +kernel
theorem m_mg7_ok : m_mg7.all m_mchk = true := by decide +kernel
theorem m_mg8_ok : m_mg8.all m_mchk = true := by decide +kernel
theorem m_mg9_ok : m_mg9.all m_mchk = true := by decide +kernel
theorem m_mg10_ok : m_mg10.all m_mchk = true := by decide +kernel
theorem m_mg11_ok : m_mg11.all m_mchk = true := by decide +kernel
theorem m_mg12_ok : m_mg12.all m_mchk = true := by decide +kernel
theorem m_mg13_ok : m_mg13.all m_mchk = true := by decide +kernel
theorem m_mg14_ok : m_mg14.all m_mchk = true := by decide +kernel
theorem m_mg15_ok : m_mg15.all m_mchk = true := by decide +kernel
theorem m_mg16_ok : m_mg16.all m_mchk = true := by decide +kernel
theorem m_mg17_ok : m_mg17.all m_mchk = true := by decide +kernel
theorem m_L0_ok : mo_L_0.all (m_ochk 13 cL_law 4) = true := by decide +kernel
theorem m_L1_ok : mo_L_1.all (m_ochk 13 cL_law 4) = true := by decide +kernel
theorem m_L2_ok : mo_L_2.all (m_ochk 13 cL_law 4) = true := by decide +kernel
theorem m_L3_ok : mo_L_3.all (m_ochk 13 cL_law 4) = true := by decide +kernel
theorem m_L4_ok : mo_L_4.all (m_ochk 13 cL_law 4) = true := by decide +kernel
theorem m_L5_ok : mo_L_5.all (m_ochk 13 cL_law 4) = true := by decide +kernel
theorem m_L6_ok : mo_L_6.all (m_ochk 13 cL_law 4) = true := by decide +kernel
theorem m_L7_ok : mo_L_7.all (m_ochk 13 cL_law 4) = true := by decide +kernel
theorem m_L8_ok : mo_L_8.all (m_ochk 13 cL_law 4) = true := by decide +kernel
theorem m_L9_ok : mo_L_9.all (m_ochk 13 cL_law 4) = true := by decide +kernel
theorem m_L10_ok : mo_L_10.all (m_ochk 13 cL_law 4) = true := by decide +kernel
theorem m_L11_ok : mo_L_11.all (m_ochk 13 cL_law 4) = true := by decide +kernel
