/-! OPERATIONS (25): byTurns -/
theorem m_turns {W : mW} {n p : Nat} {h : mH} {g : mG} (hM : MC W n p h g) (d : Nat) (a1 a2 : Int32) (man child goal l w : Nat) (x4 : Int32) (hgo : goal < 25) (hl : l ≤ 4) (hw : w < 25) (hG : MG man child goal g) (h4 : ix 2 x4) : Ok (m_bnd (ev none (d + 40) mm_X12_manBest 0 [.ref 55, .int (nI w), .int 0, .int (nI (l + 1)), .null, .null, .null] [] g) (fun r g2 => ev none (d + 41) mm_X12_byTurns 87 [.ref 55, .int a1, .int a2, .int (nI (l + 1)), .int x4, .int (nI w), .null, .null] (m_psh r []) g2)) (fun r g2 => r = some (.int (tA W p h man child goal l w x4)) ∧ Fr sA g g2) := by
  have hM0 : ∀ g', Fr s1 g g' → MC W n p (rep h 64 (FT p h child 0)) g' := fun g' F => by
    rw [FT_0, rep_id]
    exact MC_fr (fr_1A F) hM
  have gm := m_game (W := W) (man := man) (child := child) hM.1 hgo
  have lc : ∀ w', w' < 25 → gV (HT W p h man child) goal (cnt p (tfp h child)) l false w' 1 0 ≤ 8 := fun w' hw' => gV_le hgo _ _ _ _ _ hw'
  have lB : gV (HT W p h man child) goal (cnt p (tfp h child)) (l + 1) true w 0 0 ≤ 8 := gV_le hgo _ _ _ _ _ hw
  refine ok_bnd ((gm (l + 1) (by omega)).1 w 0 0 g (d + 40) hw (by omega) (hM0 g fr_refl) hG) ?_
  intro r g1 ⟨hr, F1⟩
  subst hr
  have step : ∀ k g3, k < 5 → Fr s1 g g3 → Ok (ev none (d + 40) mm_X12_byStep 0 [.ref 55, .int (nI k), .int (nI w), .int 0, .int (nI (l + 1)), .null] [] g3) (fun r g2 => r = some (.int (nI (@ite _ (HT W p h man child 0 0 w) (Classical.propDecidable _) (gV (HT W p h man child) goal (cnt p (tfp h child)) l false w 1 0) (gV (HT W p h man child) goal (cnt p (tfp h child)) l false (st w k) 1 0)))) ∧ Fr s1 g3 g2) := fun k g3 hk F3 => m_byStep (gm l (by omega)).2 (hM0 g3 F3) (MG_1 F3 hG) k w 0 (d + 40) hk hw (by omega)
  rw [mp_some, b_X12_byTurns_87]
  refine ok_if (fun z => ok_some ⟨?_, fr_1A F1⟩) (fun z => ?_)
  · unfold tA
    rw [if_pos z]
  have b4 := step 4 g1 (by omega) F1
  rw [show st w 4 = w from rfl, ite_self] at b4
  refine ok_bnd b4 ?_
  intro r g2 ⟨hr, F2⟩
  subst hr
  have F12 := fr_trans F1 F2
  have q1 := lc w hw
  rw [mp_some, b_X12_byTurns_106, mi_c (nI_eq (by omega) (by omega))]
  by_cases c : HT W p h man child 0 0 w
  · have eB : gV (HT W p h man child) goal (cnt p (tfp h child)) (l + 1) true w 0 0 = gV (HT W p h man child) goal (cnt p (tfp h child)) l false w 1 0 := if_pos c
    rw [eB, m_if_pos rfl]
    refine ok_some ⟨?_, fr_1A F12⟩
    unfold tA
    rw [if_neg z, if_pos c]
    rfl
  · have eB : gV (HT W p h man child) goal (cnt p (tfp h child)) (l + 1) true w 0 0 = mnF (fun w' => gV (HT W p h man child) goal (cnt p (tfp h child)) l false w' 1 0) w 4 := if_neg c
    have eT : tA W p h man child goal l w x4 = nI (fsF (fun w' => gV (HT W p h man child) goal (cnt p (tfp h child)) l false w' 1 0) w 4) := by
      unfold tA
      rw [if_neg z, if_neg c]
    rw [eT]
    rw [eB] at lB ⊢
    rcases fsF_spec (c := fun w' => gV (HT W p h man child) goal (cnt p (tfp h child)) l false w' 1 0) (w := w) 4 (by omega) with ⟨q2, q3⟩ | ⟨q2, q3, q4, q5⟩
    · rw [m_if_pos q3.symm, q2]
      exact ok_some ⟨rfl, fr_1A F12⟩
    · generalize fsF (fun w' => gV (HT W p h man child) goal (cnt p (tfp h child)) l false w' 1 0) w 4 = f at q2 q3 q5
      generalize mnF (fun w' => gV (HT W p h man child) goal (cnt p (tfp h child)) l false w' 1 0) w 4 = B at q3 q4 q5 lB
      rw [m_if_neg (by omega)]
      refine ok_loop (E := fun k (_ : Unit) g => ev none (d + 41) mm_X12_byTurns 116 [.ref 55, .int a1, .int a2, .int (nI (l + 1)), .int x4, .int (nI w), .int (nI B), .int (nI k)] [] g) (I := fun k _ g3 => Fr s1 g g3) (P := f) ?_ ?_ 0 () g2 (by omega) F12
      · intro k _ g3 hk F3 next
        show Ok (ev none (d + 41) mm_X12_byTurns 116 [.ref 55, .int a1, .int a2, .int (nI (l + 1)), .int x4, .int (nI w), .int (nI B), .int (nI k)] [] g3) _
        have q6 := lc _ (st_lt w hw k (by omega))
        have bk := step k g3 (by omega) F3
        rw [if_neg c] at bk
        rw [b_X12_byTurns_116]
        refine ok_bnd bk ?_
        intro r g4 ⟨hr, F4⟩
        subst hr
        rw [mp_some, b_X12_byTurns_126, m_if_neg (fun y => q5 k hk ((nI_eq (by omega) (by omega)).mp y)), nI_1]
        exact next () g4 (fr_trans F3 F4)
      · intro _ g3 F3
        show Ok (ev none (d + 41) mm_X12_byTurns 116 [.ref 55, .int a1, .int a2, .int (nI (l + 1)), .int x4, .int (nI w), .int (nI B), .int (nI f)] [] g3) _
        have bk := step f g3 (by omega) F3
        rw [if_neg c, q3] at bk
        rw [b_X12_byTurns_116]
        refine ok_bnd bk ?_
        intro r g4 ⟨hr, F4⟩
        subst hr
        rw [mp_some, b_X12_byTurns_126, m_if_pos rfl]
        exact ok_some ⟨rfl, fr_1A (fr_trans F3 F4)⟩
theorem o_byTurns : op_byTurns Inv 1299 := by
  intro g hI a1 a2 a3 a4
  obtain ⟨n, p, W, hX, hM⟩ := inv_C hI
  have hn : n ≤ 6 := hX.1.1
  -- what the class refuses
  have xr : ¬ (ix n (a1 / 10) ∧ ix n (a1 - a1 / 10 * 10) ∧ ¬ a1 / 10 = a1 - a1 / 10 * 10 ∧ ix 25 a2 ∧ (¬ a3 < 1 ∧ ¬ 5 < a3) ∧ ix 2 a4) → ev none 1299 mm_X11_byTurns 0 [.ref 0, .int a1, .int a2, .int a3, .int a4, .null, .null] [] g = some (some (.int (-1)), g) := by
    intro hno
    rw [b_X11_byTurns_0, v_hasPerson _ g _ n (by omega) hX.2.1.1, mb_some, mp_some, b_X11_byTurns_21, mi_b2]
    by_cases c1 : ix n (a1 / 10)
    · rw [m_if_pos c1, v_hasPerson _ g _ n (by omega) hX.2.1.1, mb_some, mp_some, b_X11_byTurns_33, mi_b2]
      by_cases c2 : ix n (a1 - a1 / 10 * 10)
      · rw [m_if_pos c2]
        by_cases c3 : a1 / 10 = a1 - a1 / 10 * 10
        · rw [m_if_pos c3]
        · rw [m_if_neg c3, v_isPlace, mb_some, mp_some, b_X11_byTurns_47, mi_b2]
          by_cases c4 : ix 25 a2
          · rw [m_if_pos c4]
            by_cases c5 : a3 < 1
            · rw [m_if_pos c5]
            · rw [m_if_neg c5]
              by_cases c6 : 5 < a3
              · rw [m_if_pos c6]
              · rw [m_if_neg c6, v_isBit, mb_some, mp_some, b_X11_byTurns_65, mi_b2, m_if_neg (fun c7 => hno ⟨c1, c2, c3, c4, ⟨c5, c6⟩, c7⟩)]
          · rw [m_if_neg c4]
      · rw [m_if_neg c2]
    · rw [m_if_neg c1]
  have mr : ¬ (¬ a1 < 0 ∧ ix n (a1 / 10) ∧ ix n (a1 - a1 / 10 * 10) ∧ ¬ a1 / 10 = a1 - a1 / 10 * 10 ∧ ix 25 a2 ∧ (¬ a3 < 1 ∧ ¬ 5 < a3) ∧ ix 2 a4) → ev none 1299 mm_X12_byTurns 0 [.ref 55, .int a1, .int a2, .int a3, .int a4, .null, .null, .null] [] g = some (some (.int (-1)), g) := by
    intro hno
    rw [b_X12_byTurns_0]
    by_cases c0 : a1 < 0
    · rw [m_if_pos c0]
    · rw [m_if_neg c0, b_X12_areTwo_0, v_isOne _ _ _ n (by omega) (MC_n hM), mb_some, mp_some, b_X12_areTwo_5, mi_b2]
      by_cases c1 : ix n (a1 / 10)
      · rw [m_if_pos c1, v_isOne _ _ _ n (by omega) (MC_n hM), mb_some, mp_some, b_X12_areTwo_13, mi_b2]
        by_cases c2 : ix n (a1 - a1 / 10 * 10)
        · rw [m_if_pos c2]
          by_cases c3 : a1 / 10 = a1 - a1 / 10 * 10
          · rw [m_if_pos c3, mb_some, mp_some, b_X12_byTurns_16, m_if_pos rfl]
          · rw [m_if_neg c3, mb_some, mp_some, b_X12_byTurns_16, m_if_neg (by decide), v_isPlaceOf, mb_some, mp_some, b_X12_byTurns_23, mi_b2]
            by_cases c4 : ix 25 a2
            · rw [m_if_pos c4, v_X12_in, mb_some, mp_some, b_X12_byTurns_32, mi_b2]
              by_cases c5 : ¬ a3 < 1 ∧ ¬ 5 < a3
              · rw [m_if_pos c5, v_in _ _ a4 1 2 (by omega) rfl, mb_some, mp_some, b_X12_byTurns_42, mi_b2, m_if_neg (fun c7 => hno ⟨c0, c1, c2, c3, c4, c5, c7⟩)]
              · rw [m_if_neg c5]
            · rw [m_if_neg c4]
        · rw [m_if_neg c2, mb_some, mp_some, b_X12_byTurns_16, m_if_pos rfl]
      · rw [m_if_neg c1, mb_some, mp_some, b_X12_byTurns_16, m_if_pos rfl]
  by_cases hok : ix n (a1 / 10) ∧ ix n (a1 - a1 / 10 * 10) ∧ ¬ a1 / 10 = a1 - a1 / 10 * 10 ∧ ix 25 a2 ∧ (¬ a3 < 1 ∧ ¬ 5 < a3) ∧ ix 2 a4
  · obtain ⟨⟨man, hm, em⟩, ⟨child, hc, ec⟩, hne, ⟨goal, hgo, eg⟩, h3, h4⟩ := hok
    have ea : a1 = nI (child + man * 10) := by
      have : a1 = (a1 - a1 / 10 * 10) + a1 / 10 * 10 := (Int32.sub_add_cancel _ _).symm
      rw [this, ec, em, show (10 : Int32) = nI 10 from rfl, pk_mul, nI_add]
    have c0 : ¬ a1 < 0 := by rw [ea]; exact nI_pos (by omega)
    obtain ⟨j, hj, e3⟩ : ix 6 a3 := (ix_le (n := 5) (by omega)).mp ⟨fun z => h3.1 (Int32.lt_trans z (by decide)), h3.2⟩
    have hj1 : 1 ≤ j := by
      refine Decidable.byContradiction (fun z => h3.1 ?_)
      rw [e3, show j = 0 by omega]
      decide
    obtain ⟨l, rfl⟩ : ∃ l, j = l + 1 := ⟨j - 1, by omega⟩
    obtain ⟨w, hw, ew⟩ := (hX.1.2.2.2.2.1 man hm).1
    subst eg
    subst e3
    obtain ⟨r, g1, e1, hr, F1⟩ := x_withChild hX 1268 man child goal l w a4 hm hc hgo (by omega) hw ew
    subst hr
    have hM1 := MC_fr F1 hM
    have F3 : Fr sA g1 (m_s1 (m_s1 (m_s1 g1 55 47 (nI man)) 55 48 (nI child)) 55 49 (nI goal)) := fr_s1 (fr_s1 (fr_s1 fr_refl rfl) rfl) rfl
    have hG3 : MG man child goal (m_s1 (m_s1 (m_s1 g1 55 47 (nI man)) 55 48 (nI child)) 55 49 (nI goal)) := ⟨by rw [s1_same (by decide), s1_same (by decide), s1_at], by rw [s1_same (by decide), s1_at], s1_at⟩
    obtain ⟨r2, g2, e2, hr2, F2⟩ := m_turns (MC_fr F3 hM1) 1258 a1 (nI goal) man child goal l w a4 hgo (by omega) hw hG3 h4
    subst hr2
    have hnn : ¬ nI man = nI child := by rw [← em, ← ec]; exact hne
    have e1' : ev none 1298 mm_X10_withChild 0 [.ref 19, .int (nI man), .int (nI child), .int (nI goal), .int (nI (l + 1)), .int a4, .null, .null, .null, .null, .null, .null] [] g = some (some (.int (tA W p g.1 man child goal l w a4)), g1) := e1
    refine ⟨tA W p g.1 man child goal l w a4, g1, g2, ?_, ?_, inv_fr (fr_trans F3 F2) (inv_fr F1 hI)⟩
    · rw [b_X11_byTurns_0, ec, em, v_hasPerson _ g _ n (by omega) hX.2.1.1, mb_some, mp_some, b_X11_byTurns_21, mi_b2, m_if_pos (ix_nI hm), v_hasPerson _ g _ n (by omega) hX.2.1.1, mb_some, mp_some, b_X11_byTurns_33, mi_b2, m_if_pos (ix_nI hc), m_if_neg hnn, v_isPlace, mb_some, mp_some, b_X11_byTurns_47, mi_b2, m_if_pos (ix_nI hgo), m_if_neg h3.1, m_if_neg h3.2, v_isBit, mb_some, mp_some, b_X11_byTurns_65, mi_b2, m_if_pos h4, e1', mb_some, mp_some, b_X11_byTurns_85]
    · rw [b_X12_byTurns_0, m_if_neg c0, ec, em, b_X12_areTwo_0, v_isOne _ _ _ n (by omega) (MC_n hM1), mb_some, mp_some, b_X12_areTwo_5, mi_b2, m_if_pos (ix_nI hm), v_isOne _ _ _ n (by omega) (MC_n hM1), mb_some, mp_some, b_X12_areTwo_13, mi_b2, m_if_pos (ix_nI hc), m_if_neg hnn, mb_some, mp_some, b_X12_byTurns_16, m_if_neg (by decide), v_isPlaceOf, mb_some, mp_some, b_X12_byTurns_23, mi_b2, m_if_pos (ix_nI hgo), v_X12_in, mb_some, mp_some, b_X12_byTurns_32, mi_b2, m_if_pos h3, v_in _ _ a4 1 2 (by omega) rfl, mb_some, mp_some, b_X12_byTurns_42, mi_b2, m_if_pos h4, ec, em, mi_nI (by omega) (by omega), pk_cl man (hx := rfl), (hM1.2.1.2.2.2.2 man).1, ew]
      exact e2
  · exact op_bad (-1) hI (xr hok) (mr (fun z => hok z.2))
