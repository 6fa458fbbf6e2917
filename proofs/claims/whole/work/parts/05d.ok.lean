theorem m_mg11_0 : ([mm_X12_wrong, mm_X12_addStep, mm_X12_nameOf, mm_X12_opens] : List mM).all m_mchk = true := by decide +kernel
theorem m_mg11_1 : ([mm_X12_figure, mm_X12_operand, mm_X12_product, mm_X12_sum] : List mM).all m_mchk = true := by decide +kernel
theorem m_mg11_2 : ([mm_X12_compared, mm_X12_both, mm_X12_either, mm_X12_line] : List mM).all m_mchk = true := by decide +kernel
theorem m_mg11_3 : ([mm_X12_readText, mm_X12_twoOf, mm_X12_worked, mm_X12_gives] : List mM).all m_mchk = true := by decide +kernel
theorem m_mg11_ok : m_mg11.all m_mchk = true := by
  show ([mm_X12_wrong, mm_X12_addStep, mm_X12_nameOf, mm_X12_opens] ++ ([mm_X12_figure, mm_X12_operand, mm_X12_product, mm_X12_sum] ++ ([mm_X12_compared, mm_X12_both, mm_X12_either, mm_X12_line] ++ ([mm_X12_readText, mm_X12_twoOf, mm_X12_worked, mm_X12_gives]))) : List mM).all m_mchk = true
  simp only [List.all_append, m_mg11_0, m_mg11_1, m_mg11_2, m_mg11_3, Bool.and_self]
theorem m_mg12_0 : ([mm_X12_law, mm_X12_isOn, mm_X12_othersWith, mm_X12_hardOn] : List mM).all m_mchk = true := by decide +kernel
theorem m_mg12_1 : ([mm_X12_hard, mm_X12_holdsAt, mm_X12_heldBy, mm_X12_isHeld] : List mM).all m_mchk = true := by decide +kernel
theorem m_mg12_2 : ([mm_X12_hardestNow, mm_X12_held, mm_X12_stepped, mm_X12_dayOn] : List mM).all m_mchk = true := by decide +kernel
theorem m_mg12_3 : ([mm_X12_rowFault, mm_X12_at, mm_X12_stepsOf, mm_X12_keptAt] : List mM).all m_mchk = true := by decide +kernel
theorem m_mg12_ok : m_mg12.all m_mchk = true := by
  show ([mm_X12_law, mm_X12_isOn, mm_X12_othersWith, mm_X12_hardOn] ++ ([mm_X12_hard, mm_X12_holdsAt, mm_X12_heldBy, mm_X12_isHeld] ++ ([mm_X12_hardestNow, mm_X12_held, mm_X12_stepped, mm_X12_dayOn] ++ ([mm_X12_rowFault, mm_X12_at, mm_X12_stepsOf, mm_X12_keptAt]))) : List mM).all m_mchk = true
  simp only [List.all_append, m_mg12_0, m_mg12_1, m_mg12_2, m_mg12_3, Bool.and_self]
theorem m_mg13_0 : ([mm_X12_weightsOf, mm_X12_route, mm_X12_goBest, mm_X12_best] : List mM).all m_mchk = true := by decide +kernel
theorem m_mg13_1 : ([mm_X12_dayFrom, mm_X12_soonest, mm_X12_free, mm_X12_hereOf] : List mM).all m_mchk = true := by decide +kernel
theorem m_mg13_2 : ([mm_X12_freesBy, mm_X12_words, mm_X12_breaks, mm_X12_nobodyHeld] : List mM).all m_mchk = true := by decide +kernel
theorem m_mg13_3 : ([mm_X12_promisedTo, mm_X12_allFree, mm_X12_all, mm_X12_heldToward] : List mM).all m_mchk = true := by decide +kernel
theorem m_mg13_ok : m_mg13.all m_mchk = true := by
  show ([mm_X12_weightsOf, mm_X12_route, mm_X12_goBest, mm_X12_best] ++ ([mm_X12_dayFrom, mm_X12_soonest, mm_X12_free, mm_X12_hereOf] ++ ([mm_X12_freesBy, mm_X12_words, mm_X12_breaks, mm_X12_nobodyHeld] ++ ([mm_X12_promisedTo, mm_X12_allFree, mm_X12_all, mm_X12_heldToward]))) : List mM).all m_mchk = true
  simp only [List.all_append, m_mg13_0, m_mg13_1, m_mg13_2, m_mg13_3, Bool.and_self]
