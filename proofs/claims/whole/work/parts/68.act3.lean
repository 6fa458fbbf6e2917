/-! OPERATIONS (28): the deeds, in the model -/
def dPP (kd b : Nat) (x : Int32) (t : Tr) : Int32 × Tr := ((dH kd b x (psh 10 t)).1 * 2, (dH kd b x (psh 10 t)).2)
def dLP (kd b : Nat) (x : Int32) (t : Tr) : Int32 × Tr := (-(dPP kd b x (psh 30 t)).1, (dPP kd b x (psh 30 t)).2)
def dP (kd b : Nat) (x : Int32) (t : Tr) : Int32 × Tr := if kd = 3 ∨ kd = 5 then dLP kd b (x + 1) (psh 41 t) else if kd = 7 then ((dPP kd b x (psh 80 t)).1 + (dF kd b 2 (dPP kd b x (psh 80 t)).2).1, (dF kd b 2 (dPP kd b x (psh 80 t)).2).2) else if kd = 2 then dLP kd b x t else dPP kd b x t
def dPT (kd b : Nat) (x : Int32) (t : Tr) : Int32 × Tr := ((dP kd b x (psh 2 t)).1 - (dF kd b 1 (dP kd b x (psh 2 t)).2).1, (dF kd b 1 (dP kd b x (psh 2 t)).2).2)
def dT (kd b : Nat) (x : Int32) (t : Tr) : Int32 × Tr := if kd = 4 then ((dPT kd b x (psh 50 t)).1 ^^^ 5, (dPT kd b x (psh 50 t)).2) else if kd = 5 then ((dPT kd b x (psh 61 t)).1 + 1, (dPT kd b x (psh 61 t)).2) else dPT kd b x t
theorem psh_n {c : Int32} {t : Tr} : (psh c t).1 = t.1 + 1 := rfl
theorem dPP_n {kd b : Nat} {x : Int32} {t : Tr} : (dPP kd b x t).2.1 ≤ t.1 + 4 := by
  have := dH_n (kd := kd) (b := b) (x := x) (t := psh 10 t)
  rw [psh_n] at this
  show (dH kd b x (psh 10 t)).2.1 ≤ _
  omega
theorem dLP_n {kd b : Nat} {x : Int32} {t : Tr} : (dLP kd b x t).2.1 ≤ t.1 + 5 := by
  have := dPP_n (kd := kd) (b := b) (x := x) (t := psh 30 t)
  rw [psh_n] at this
  show (dPP kd b x (psh 30 t)).2.1 ≤ _
  omega
theorem dF_n {kd b : Nat} {x : Int32} {t : Tr} : (dF kd b x t).2.1 ≤ t.1 + 6 := by
  unfold dF
  split
  · have := dH_n (kd := kd) (b := b) (x := 2) (t := (dHF b x (psh 60 t)).2)
    have e : (dHF b x (psh 60 t)).2.1 = t.1 + 3 := rfl
    rw [e] at this
    show (dH kd b 2 (dHF b x (psh 60 t)).2).2.1 ≤ _
    omega
  · split
    · show t.1 + 2 ≤ _
      omega
    · show t.1 + 1 ≤ _
      omega
theorem dP_n {kd b : Nat} {x : Int32} {t : Tr} : (dP kd b x t).2.1 ≤ t.1 + 11 := by
  unfold dP
  split
  · have := dLP_n (kd := kd) (b := b) (x := x + 1) (t := psh 41 t)
    rw [psh_n] at this
    omega
  · split
    · have h1 := dPP_n (kd := kd) (b := b) (x := x) (t := psh 80 t)
      have h2 := dF_n (kd := kd) (b := b) (x := 2) (t := (dPP kd b x (psh 80 t)).2)
      rw [psh_n] at h1
      show (dF kd b 2 (dPP kd b x (psh 80 t)).2).2.1 ≤ _
      omega
    · split
      · have := dLP_n (kd := kd) (b := b) (x := x) (t := t)
        omega
      · have := dPP_n (kd := kd) (b := b) (x := x) (t := t)
        omega
theorem m_plainPulls {b kd : Nat} {t : Tr} {g : mG} (hK : MK b kd t g) (ht : t.1 + 4 < 1000) (d : Nat) (x : Int32) : Ok (ev none (d + 4) mm_X12_plainPulls 0 [.ref 55, .int (nI b), .int x] [] g) (fun r g2 => r = some (.int (dPP kd b x t).1) ∧ MK b kd (dPP kd b x t).2 g2 ∧ Fr sTM g g2) := by
  rw [b_X12_plainPulls_0]
  refine ok_bnd (m_ran hK (by omega) _ 10) ?_
  intro r g2 ⟨hr, q1, q2⟩
  subst hr
  rw [mp_none, b_X12_plainPulls_6]
  refine ok_bnd (m_holding q1 (by rw [psh_n]; omega) d x) ?_
  intro r g3 ⟨hr, q3, q4⟩
  subst hr
  rw [mp_some, b_X12_plainPulls_12]
  exact ok_some ⟨rfl, q3, fr_trans q2 q4⟩
theorem m_lacePulls {b kd : Nat} {t : Tr} {g : mG} (hK : MK b kd t g) (ht : t.1 + 5 < 1000) (d : Nat) (x : Int32) : Ok (ev none (d + 5) mm_X12_lacePulls 0 [.ref 55, .int (nI b), .int x] [] g) (fun r g2 => r = some (.int (dLP kd b x t).1) ∧ MK b kd (dLP kd b x t).2 g2 ∧ Fr sTM g g2) := by
  rw [b_X12_lacePulls_0]
  refine ok_bnd (m_ran hK (by omega) _ 30) ?_
  intro r g2 ⟨hr, q1, q2⟩
  subst hr
  rw [mp_none, b_X12_lacePulls_6]
  refine ok_bnd (m_plainPulls q1 (by rw [psh_n]; omega) d x) ?_
  intro r g3 ⟨hr, q3, q4⟩
  subst hr
  rw [mp_some, b_X12_lacePulls_12]
  exact ok_some ⟨rfl, q3, fr_trans q2 q4⟩
theorem m_pulling {b kd : Nat} {t : Tr} {g : mG} (hK : MK b kd t g) (ht : t.1 + 11 < 1000) (d : Nat) (x : Int32) : Ok (ev none (d + 6) mm_X12_pulling 0 [.ref 55, .int (nI b), .int x, .null] [] g) (fun r g2 => r = some (.int (dP kd b x t).1) ∧ MK b kd (dP kd b x t).2 g2 ∧ Fr sTM g g2) := by
  have hb := hK.1
  have hk8 := hK.2.1
  have e88 := hK.2.2.1
  have eq : ∀ j, j < 8 → (nI kd = nI j ↔ kd = j) := fun j hj => nI_eq (by omega) (by omega)
  rw [b_X12_pulling_0, mi_nI (by omega) (by omega), pk_cl b (hx := rfl), e88, show ev none (d + 5) mm_X12_isUnder 0 [.int (nI kd), .int 3] [] g = _ from v_under kd hk8 3 (Or.inr rfl) _ g, mb_some, mp_some, b_X12_pulling_10]
  by_cases c : kd = 3 ∨ kd = 5
  · have ed : dP kd b x t = dLP kd b (x + 1) (psh 41 t) := if_pos c
    rw [if_pos (by omega), m_if_neg (by decide), ed]
    refine ok_bnd (m_ran hK (by omega) _ 41) ?_
    intro r g2 ⟨hr, q1, q2⟩
    subst hr
    rw [mp_none, b_X12_pulling_19]
    refine ok_bnd (m_lacePulls q1 (by rw [psh_n]; omega) d (x + 1)) ?_
    intro r g3 ⟨hr, q3, q4⟩
    subst hr
    rw [mp_some, b_X12_pulling_27]
    exact ok_some ⟨rfl, q3, fr_trans q2 q4⟩
  · rw [if_neg (by omega), m_if_pos rfl, mi_nI (by omega) (by omega), mi_nI (by omega) (by omega), pk_cl b (hx := rfl), e88]
    by_cases c7 : kd = 7
    · have ed : dP kd b x t = ((dPP kd b x (psh 80 t)).1 + (dF kd b 2 (dPP kd b x (psh 80 t)).2).1, (dF kd b 2 (dPP kd b x (psh 80 t)).2).2) := (if_neg c).trans (if_pos c7)
      rw [m_if_pos (show nI kd = 7 from (eq 7 (by omega)).mpr c7), ed]
      refine ok_bnd (m_ran hK (by omega) _ 80) ?_
      intro r g2 ⟨hr, q1, q2⟩
      subst hr
      rw [mp_none, b_X12_pulling_45]
      refine ok_bnd (m_plainPulls q1 (by rw [psh_n]; omega) (d + 1) x) ?_
      intro r g3 ⟨hr, q3, q4⟩
      subst hr
      have h1 := dPP_n (kd := kd) (b := b) (x := x) (t := psh 80 t)
      rw [psh_n] at h1
      rw [mp_some, b_X12_pulling_51]
      refine ok_bnd (m_freeing q3 (by omega) (d + 1) 2) ?_
      intro r g4 ⟨hr, q5, q6⟩
      subst hr
      rw [mp_some, b_X12_pulling_59]
      exact ok_some ⟨rfl, q5, fr_trans (fr_trans q2 q4) q6⟩
    · rw [m_if_neg (show ¬ nI kd = 7 from fun z => c7 ((eq 7 (by omega)).mp z))]
      by_cases c2 : kd = 2
      · have ed : dP kd b x t = dLP kd b x t := (if_neg c).trans ((if_neg c7).trans (if_pos c2))
        rw [m_if_pos (show nI kd = 2 from (eq 2 (by omega)).mpr c2), ed]
        refine ok_bnd (m_lacePulls hK (by omega) d x) ?_
        intro r g3 ⟨hr, q3, q4⟩
        subst hr
        rw [mp_some, b_X12_pulling_77, b_X12_pulling_86]
        exact ok_some ⟨rfl, q3, q4⟩
      · have ed : dP kd b x t = dPP kd b x t := (if_neg c).trans ((if_neg c7).trans (if_neg c2))
        rw [m_if_neg (show ¬ nI kd = 2 from fun z => c2 ((eq 2 (by omega)).mp z)), ed]
        refine ok_bnd (m_plainPulls hK (by omega) (d + 1) x) ?_
        intro r g3 ⟨hr, q3, q4⟩
        subst hr
        rw [mp_some, b_X12_pulling_86]
        exact ok_some ⟨rfl, q3, q4⟩
theorem m_plainTells {b kd : Nat} {t : Tr} {g : mG} (hK : MK b kd t g) (ht : t.1 + 18 < 1000) (d : Nat) (x : Int32) : Ok (ev none (d + 7) mm_X12_plainTells 0 [.ref 55, .int (nI b), .int x, .null] [] g) (fun r g2 => r = some (.int (dPT kd b x t).1) ∧ MK b kd (dPT kd b x t).2 g2 ∧ Fr sTM g g2) := by
  rw [b_X12_plainTells_0]
  refine ok_bnd (m_ran hK (by omega) _ 2) ?_
  intro r g2 ⟨hr, q1, q2⟩
  subst hr
  rw [mp_none, b_X12_plainTells_5]
  refine ok_bnd (m_pulling q1 (by rw [psh_n]; omega) d x) ?_
  intro r g3 ⟨hr, q3, q4⟩
  subst hr
  have h1 := dP_n (kd := kd) (b := b) (x := x) (t := psh 2 t)
  rw [psh_n] at h1
  rw [mp_some, b_X12_plainTells_11]
  refine ok_bnd (m_freeing q3 (by omega) (d + 2) 1) ?_
  intro r g4 ⟨hr, q5, q6⟩
  subst hr
  rw [mp_some, b_X12_plainTells_19]
  exact ok_some ⟨rfl, q5, fr_trans (fr_trans q2 q4) q6⟩
theorem m_telling {b kd : Nat} {t : Tr} {g : mG} (hK : MK b kd t g) (ht : t.1 + 19 < 1000) (d : Nat) (x : Int32) : Ok (ev none (d + 8) mm_X12_telling 0 [.ref 55, .int (nI b), .int x] [] g) (fun r g2 => r = some (.int (dT kd b x t).1) ∧ MK b kd (dT kd b x t).2 g2 ∧ Fr sTM g g2) := by
  have hb := hK.1
  have hk8 := hK.2.1
  have e88 := hK.2.2.1
  have eq : ∀ j, j < 8 → (nI kd = nI j ↔ kd = j) := fun j hj => nI_eq (by omega) (by omega)
  rw [b_X12_telling_0, mi_nI (by omega) (by omega), mi_nI (by omega) (by omega), pk_cl b (hx := rfl), e88]
  by_cases c4 : kd = 4
  · have ed : dT kd b x t = ((dPT kd b x (psh 50 t)).1 ^^^ 5, (dPT kd b x (psh 50 t)).2) := if_pos c4
    rw [m_if_pos (show nI kd = 4 from (eq 4 (by omega)).mpr c4), ed]
    refine ok_bnd (m_ran hK (by omega) _ 50) ?_
    intro r g2 ⟨hr, q1, q2⟩
    subst hr
    rw [mp_none, b_X12_telling_16]
    refine ok_bnd (m_plainTells q1 (by rw [psh_n]; omega) d x) ?_
    intro r g3 ⟨hr, q3, q4⟩
    subst hr
    rw [mp_some, b_X12_telling_22]
    exact ok_some ⟨rfl, q3, fr_trans q2 q4⟩
  · rw [m_if_neg (show ¬ nI kd = 4 from fun z => c4 ((eq 4 (by omega)).mp z))]
    by_cases c5 : kd = 5
    · have ed : dT kd b x t = ((dPT kd b x (psh 61 t)).1 + 1, (dPT kd b x (psh 61 t)).2) := (if_neg c4).trans (if_pos c5)
      rw [m_if_pos (show nI kd = 5 from (eq 5 (by omega)).mpr c5), ed]
      refine ok_bnd (m_ran hK (by omega) _ 61) ?_
      intro r g2 ⟨hr, q1, q2⟩
      subst hr
      rw [mp_none, b_X12_telling_41]
      refine ok_bnd (m_plainTells q1 (by rw [psh_n]; omega) d x) ?_
      intro r g3 ⟨hr, q3, q4⟩
      subst hr
      rw [mp_some, b_X12_telling_47]
      exact ok_some ⟨rfl, q3, fr_trans q2 q4⟩
    · have ed : dT kd b x t = dPT kd b x t := (if_neg c4).trans (if_neg c5)
      rw [m_if_neg (show ¬ nI kd = 5 from fun z => c5 ((eq 5 (by omega)).mp z)), ed]
      refine ok_bnd (m_plainTells hK (by omega) d x) ?_
      intro r g3 ⟨hr, q3, q4⟩
      subst hr
      rw [mp_some, b_X12_telling_56]
      exact ok_some ⟨rfl, q3, q4⟩
