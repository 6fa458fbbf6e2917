theorem m_fl_ok : m_fl.all (fun l => l.all m_fchk) = true := by decide +kernel
theorem m_gs_ok : m_gs.all (fun l => l.all m_gchk) = true := by decide +kernel
theorem m_ml_ok : m_ml.all (fun l => l.all m_lchk) = true := by decide +kernel
theorem m_ac_ok : m_wd m_acN = some (.native arraycopyName) ∧ m_wd m_acS = some (.static arraycopyName) ∧ m_wd m_acI = some (.initialized "java/lang/System") := by decide +kernel
theorem m_ma_ok : (m_wd m_maxS = some (.static Lib.Math.max.name) ∧ m_wd m_maxC = some (.code Lib.Math.max.name Lib.Math.max.code 2 (some .int))) ∧ (m_wd m_minS = some (.static Lib.Math.min.name) ∧ m_wd m_minC = some (.code Lib.Math.min.name Lib.Math.min.code 2 (some .int))) ∧ (m_wd m_absS = some (.static Lib.Math.abs.name) ∧ m_wd m_absC = some (.code Lib.Math.abs.name Lib.Math.abs.code 1 (some .int))) ∧ m_wd m_maI = some (.initialized "java/lang/Math") := by decide +kernel
theorem m_mg0_ok : m_mg0.all m_mchk = true := by decide +kernel
theorem m_mg1_ok : m_mg1.all m_mchk = true := by decide +kernel
theorem m_mg2_ok : m_mg2.all m_mchk = true := by decide +kernel
theorem m_mg3_ok : m_mg3.all m_mchk = true := by decide +kernel
