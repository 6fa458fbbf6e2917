theorem m_mg14_0 : ([mm_X12_ring, mm_X12_areShelves, mm_X12_judge, mm_X12_canBe] : List mM).all m_mchk = true := by decide +kernel
theorem m_mg14_1 : ([mm_X12_can, mm_X12_who, mm_X12_farOf, mm_X12_goRound] : List mM).all m_mchk = true := by decide +kernel
theorem m_mg14_2 : ([mm_X12_feeds, mm_X12_goForgot, mm_X12_lowest, mm_X12_odds] : List mM).all m_mchk = true := by decide +kernel
theorem m_mg14_3 : ([mm_X12_rued, mm_X12_leastToForget, mm_X12_byStep, mm_X12_manBest] : List mM).all m_mchk = true := by decide +kernel
theorem m_mg14_ok : m_mg14.all m_mchk = true := by
  show ([mm_X12_ring, mm_X12_areShelves, mm_X12_judge, mm_X12_canBe] ++ ([mm_X12_can, mm_X12_who, mm_X12_farOf, mm_X12_goRound] ++ ([mm_X12_feeds, mm_X12_goForgot, mm_X12_lowest, mm_X12_odds] ++ ([mm_X12_rued, mm_X12_leastToForget, mm_X12_byStep, mm_X12_manBest]))) : List mM).all m_mchk = true
  simp only [List.all_append, m_mg14_0, m_mg14_1, m_mg14_2, m_mg14_3, Bool.and_self]
theorem m_mg15_0 : ([mm_X12_childBest, mm_X12_byTurns, mm_X12_drawn, mm_X12_step] : List mM).all m_mchk = true := by decide +kernel
theorem m_mg15_1 : ([mm_X12_pull, mm_X12_letOff, mm_X12_forget, mm_X12_day] : List mM).all m_mchk = true := by decide +kernel
theorem m_mg15_2 : ([mm_X12_led, mm_X12_image, mm_X12_back, mm_X12_isBody] : List mM).all m_mchk = true := by decide +kernel
theorem m_mg15_3 : ([mm_X12_ran, mm_X12_trace, mm_X12_body, mm_X12_isUnder] : List mM).all m_mchk = true := by decide +kernel
theorem m_mg15_ok : m_mg15.all m_mchk = true := by
  show ([mm_X12_childBest, mm_X12_byTurns, mm_X12_drawn, mm_X12_step] ++ ([mm_X12_pull, mm_X12_letOff, mm_X12_forget, mm_X12_day] ++ ([mm_X12_led, mm_X12_image, mm_X12_back, mm_X12_isBody] ++ ([mm_X12_ran, mm_X12_trace, mm_X12_body, mm_X12_isUnder]))) : List mM).all m_mchk = true
  simp only [List.all_append, m_mg15_0, m_mg15_1, m_mg15_2, m_mg15_3, Bool.and_self]
theorem m_mg16_0 : ([mm_X12_plainHolds, mm_X12_pittHolds, mm_X12_holding, mm_X12_plainPulls] : List mM).all m_mchk = true := by decide +kernel
theorem m_mg16_1 : ([mm_X12_lacePulls, mm_X12_pulling, mm_X12_plainFrees, mm_X12_heelFrees] : List mM).all m_mchk = true := by decide +kernel
theorem m_mg16_2 : ([mm_X12_freeing, mm_X12_plainTells, mm_X12_telling, mm_X12_act] : List mM).all m_mchk = true := by decide +kernel
theorem m_mg16_3 : ([mm_X12_count, mm_X12_isShelf, mm_X12_keep, mm_X12_row] : List mM).all m_mchk = true := by decide +kernel
theorem m_mg16_ok : m_mg16.all m_mchk = true := by
  show ([mm_X12_plainHolds, mm_X12_pittHolds, mm_X12_holding, mm_X12_plainPulls] ++ ([mm_X12_lacePulls, mm_X12_pulling, mm_X12_plainFrees, mm_X12_heelFrees] ++ ([mm_X12_freeing, mm_X12_plainTells, mm_X12_telling, mm_X12_act] ++ ([mm_X12_count, mm_X12_isShelf, mm_X12_keep, mm_X12_row]))) : List mM).all m_mchk = true
  simp only [List.all_append, m_mg16_0, m_mg16_1, m_mg16_2, m_mg16_3, Bool.and_self]
theorem m_mg17_0 : ([mm_X12_whyNoPlace, mm_X12_put, mm_X12_element, mm_X12_shift] : List mM).all m_mchk = true := by decide +kernel
theorem m_mg17_1 : ([mm_X12_taken, mm_J6_lowestOneBit_0f7a4, mm_J6_bitCount_0f7a4] : List mM).all m_mchk = true := by decide +kernel
theorem m_mg17_ok : m_mg17.all m_mchk = true := by
  show ([mm_X12_whyNoPlace, mm_X12_put, mm_X12_element, mm_X12_shift] ++ ([mm_X12_taken, mm_J6_lowestOneBit_0f7a4, mm_J6_bitCount_0f7a4]) : List mM).all m_mchk = true
  simp only [List.all_append, m_mg17_0, m_mg17_1, Bool.and_self]
