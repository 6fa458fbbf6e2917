/-! OPERATIONS (27): the deeds, in the model -/
theorem m_holding {b kd : Nat} {t : Tr} {g : mG} (hK : MK b kd t g) (ht : t.1 + 3 < 1000) (d : Nat) (x : Int32) : Ok (ev none (d + 3) mm_X12_holding 0 [.ref 55, .int (nI b), .int x] [] g) (fun r g2 => r = some (.int (dH kd b x t).1) ∧ MK b kd (dH kd b x t).2 g2 ∧ Fr sTM g g2) := by
  have hb := hK.1
  have hk8 := hK.2.1
  have e88 := hK.2.2.1
  have eq : ∀ j, j < 8 → (nI kd = nI j ↔ kd = j) := fun j hj => nI_eq (by omega) (by omega)
  rw [b_X12_holding_0, mi_nI (by omega) (by omega), pk_cl b (hx := rfl), e88, show ev none (d + 2) mm_X12_isUnder 0 [.int (nI kd), .int 1] [] g = _ from v_under kd hk8 1 (Or.inl rfl) _ g, mb_some, mp_some, b_X12_holding_10]
  by_cases c : kd = 1 ∨ kd = 4
  · have ed : dH kd b x t = ((dPH b x (psh 20 t)).1 + 3, (dPH b x (psh 20 t)).2) := if_pos c
    rw [if_pos (by omega), m_if_neg (by decide), ed]
    refine ok_bnd (m_ran hK (by omega) _ 20) ?_
    intro r g2 ⟨hr, q1, q2⟩
    subst hr
    rw [mp_none, b_X12_holding_19]
    refine ok_bnd (m_plainHolds q1 (show t.1 + 1 + 1 < 1000 by omega) (d + 1) x) ?_
    intro r g3 ⟨hr, q3, q4⟩
    subst hr
    rw [mp_some, b_X12_holding_25]
    exact ok_some ⟨rfl, q3, fr_trans q2 q4⟩
  · rw [if_neg (by omega), m_if_pos rfl, mi_nI (by omega) (by omega), mi_nI (by omega) (by omega), pk_cl b (hx := rfl), e88]
    by_cases c7 : kd = 7
    · have ed : dH kd b x t = ((dTH b x (psh 81 t)).1 - 1, (dTH b x (psh 81 t)).2) := (if_neg c).trans (if_pos c7)
      rw [m_if_pos (show nI kd = 7 from (eq 7 (by omega)).mpr c7), ed]
      refine ok_bnd (m_ran hK (by omega) _ 81) ?_
      intro r g2 ⟨hr, q1, q2⟩
      subst hr
      rw [mp_none, b_X12_holding_45]
      refine ok_bnd (m_pittHolds q1 (show t.1 + 1 + 2 < 1000 by omega) d x) ?_
      intro r g3 ⟨hr, q3, q4⟩
      subst hr
      rw [mp_some, b_X12_holding_51]
      exact ok_some ⟨rfl, q3, fr_trans q2 q4⟩
    · rw [m_if_neg (show ¬ nI kd = 7 from fun z => c7 ((eq 7 (by omega)).mp z))]
      by_cases c6 : kd = 6
      · have ed : dH kd b x t = dTH b x t := (if_neg c).trans ((if_neg c7).trans (if_pos c6))
        rw [m_if_pos (show nI kd = 6 from (eq 6 (by omega)).mpr c6), ed]
        refine ok_bnd (m_pittHolds hK (by omega) d x) ?_
        intro r g3 ⟨hr, q3, q4⟩
        subst hr
        rw [mp_some, b_X12_holding_71, b_X12_holding_80]
        exact ok_some ⟨rfl, q3, q4⟩
      · have ed : dH kd b x t = dPH b x t := (if_neg c).trans ((if_neg c7).trans (if_neg c6))
        rw [m_if_neg (show ¬ nI kd = 6 from fun z => c6 ((eq 6 (by omega)).mp z)), ed]
        refine ok_bnd (m_plainHolds hK (by omega) (d + 1) x) ?_
        intro r g3 ⟨hr, q3, q4⟩
        subst hr
        rw [mp_some, b_X12_holding_80]
        exact ok_some ⟨rfl, q3, q4⟩
theorem dH_n {kd b : Nat} {x : Int32} {t : Tr} : (dH kd b x t).2.1 ≤ t.1 + 3 := by
  unfold dH dTH dPH psh
  split
  · dsimp only; omega
  · split
    · dsimp only; omega
    · split <;> dsimp only <;> omega
def dPF (b : Nat) (x : Int32) (t : Tr) : Int32 × Tr := (x ^^^ nI b, psh 11 t)
def dHF (b : Nat) (x : Int32) (t : Tr) : Int32 × Tr := ((dPF b x (psh 40 t)).1 * 3, (dPF b x (psh 40 t)).2)
def dF (kd b : Nat) (x : Int32) (t : Tr) : Int32 × Tr := if kd = 5 then ((dHF b x (psh 60 t)).1 - (dH kd b 2 (dHF b x (psh 60 t)).2).1, (dH kd b 2 (dHF b x (psh 60 t)).2).2) else if kd = 3 then dHF b x t else dPF b x t
theorem m_plainFrees {b kd : Nat} {t : Tr} {g : mG} (hK : MK b kd t g) (ht : t.1 + 1 < 1000) (d : Nat) (x : Int32) : Ok (ev none (d + 1) mm_X12_plainFrees 0 [.ref 55, .int (nI b), .int x] [] g) (fun r g2 => r = some (.int (dPF b x t).1) ∧ MK b kd (dPF b x t).2 g2 ∧ Fr sTM g g2) := by
  rw [b_X12_plainFrees_0]
  refine ok_bnd (m_ran hK ht d 11) ?_
  intro r g2 ⟨hr, q1, q2⟩
  subst hr
  rw [mp_none, b_X12_plainFrees_6]
  exact ok_some ⟨rfl, q1, q2⟩
theorem m_heelFrees {b kd : Nat} {t : Tr} {g : mG} (hK : MK b kd t g) (ht : t.1 + 2 < 1000) (d : Nat) (x : Int32) : Ok (ev none (d + 2) mm_X12_heelFrees 0 [.ref 55, .int (nI b), .int x] [] g) (fun r g2 => r = some (.int (dHF b x t).1) ∧ MK b kd (dHF b x t).2 g2 ∧ Fr sTM g g2) := by
  rw [b_X12_heelFrees_0]
  refine ok_bnd (m_ran hK (by omega) _ 40) ?_
  intro r g2 ⟨hr, q1, q2⟩
  subst hr
  rw [mp_none, b_X12_heelFrees_6]
  refine ok_bnd (m_plainFrees q1 (show t.1 + 1 + 1 < 1000 by omega) d x) ?_
  intro r g3 ⟨hr, q3, q4⟩
  subst hr
  rw [mp_some, b_X12_heelFrees_12]
  exact ok_some ⟨rfl, q3, fr_trans q2 q4⟩
theorem m_freeing {b kd : Nat} {t : Tr} {g : mG} (hK : MK b kd t g) (ht : t.1 + 6 < 1000) (d : Nat) (x : Int32) : Ok (ev none (d + 4) mm_X12_freeing 0 [.ref 55, .int (nI b), .int x, .null] [] g) (fun r g2 => r = some (.int (dF kd b x t).1) ∧ MK b kd (dF kd b x t).2 g2 ∧ Fr sTM g g2) := by
  have hb := hK.1
  have hk8 := hK.2.1
  have e88 := hK.2.2.1
  have eq : ∀ j, j < 8 → (nI kd = nI j ↔ kd = j) := fun j hj => nI_eq (by omega) (by omega)
  rw [b_X12_freeing_0, mi_nI (by omega) (by omega), mi_nI (by omega) (by omega), pk_cl b (hx := rfl), e88]
  by_cases c5 : kd = 5
  · have ed : dF kd b x t = ((dHF b x (psh 60 t)).1 - (dH kd b 2 (dHF b x (psh 60 t)).2).1, (dH kd b 2 (dHF b x (psh 60 t)).2).2) := if_pos c5
    rw [m_if_pos (show nI kd = 5 from (eq 5 (by omega)).mpr c5), ed]
    refine ok_bnd (m_ran hK (by omega) _ 60) ?_
    intro r g2 ⟨hr, q1, q2⟩
    subst hr
    rw [mp_none, b_X12_freeing_16]
    refine ok_bnd (m_heelFrees q1 (show t.1 + 1 + 2 < 1000 by omega) (d + 1) x) ?_
    intro r g3 ⟨hr, q3, q4⟩
    subst hr
    rw [mp_some, b_X12_freeing_22]
    refine ok_bnd (m_holding q3 (show t.1 + 1 + 1 + 1 + 3 < 1000 by omega) d 2) ?_
    intro r g4 ⟨hr, q5, q6⟩
    subst hr
    rw [mp_some, b_X12_freeing_30]
    exact ok_some ⟨rfl, q5, fr_trans (fr_trans q2 q4) q6⟩
  · rw [m_if_neg (show ¬ nI kd = 5 from fun z => c5 ((eq 5 (by omega)).mp z))]
    by_cases c3 : kd = 3
    · have ed : dF kd b x t = dHF b x t := (if_neg c5).trans (if_pos c3)
      rw [m_if_pos (show nI kd = 3 from (eq 3 (by omega)).mpr c3), ed]
      refine ok_bnd (m_heelFrees hK (by omega) (d + 1) x) ?_
      intro r g3 ⟨hr, q3, q4⟩
      subst hr
      rw [mp_some, b_X12_freeing_48, b_X12_freeing_57]
      exact ok_some ⟨rfl, q3, q4⟩
    · have ed : dF kd b x t = dPF b x t := (if_neg c5).trans (if_neg c3)
      rw [m_if_neg (show ¬ nI kd = 3 from fun z => c3 ((eq 3 (by omega)).mp z)), ed]
      refine ok_bnd (m_plainFrees hK (by omega) (d + 2) x) ?_
      intro r g3 ⟨hr, q3, q4⟩
      subst hr
      rw [mp_some, b_X12_freeing_57]
      exact ok_some ⟨rfl, q3, q4⟩
