/-! OPERATIONS (33): the deeds, in the class: pulling, telling -/
theorem x_pp {b kd : Nat} {t : Tr} {g : mG} (hK : XK b kd t g) (hB : XB b g) (ht : t.1 + 4 < 1000) (d : Nat) (x3 : Int32) (k e : Nat) (hk : k < 8) (hj : cz 4 k 1 = 0) (he : e < 26) : Ok (ev none (d + 9) mm_X0_run 0 [.ref 39, .int (nI k), .int (nI 1), .int x3, .int (nI e), .null, .null] [] g) (RK g b kd (dPP kd b x3 t)) := by
  refine run_go hK (by omega) (d + 8) x3 k 1 e 0 10 _ hk (by omega) (by omega) hj (by decide) rfl (fun g2 hX F => ?_)
  rw [b_X0_workedOut_0]
  iterate 2 rw [m_if_neg (by decide)]
  rw [m_if_pos rfl]
  refine ok_bnd (x_own hX (xb_fr hB F) (d + 5) 0 x3 (e + 1) (x_hold hX (by rw [psh_n]; omega) d x3 kd (e + 1) hK.2.1 (by omega))) ?_
  intro r g3 ⟨hr, q1, q2⟩
  subst hr
  rw [mp_some, b_X0_workedOut_157]
  exact ok_some ⟨rfl, q1, q2⟩
theorem x_lp {b kd : Nat} {t : Tr} {g : mG} (hK : XK b kd t g) (hB : XB b g) (ht : t.1 + 5 < 1000) (d : Nat) (x3 : Int32) (e : Nat) (he : e < 25) : Ok (ev none (d + 11) mm_X0_run 0 [.ref 39, .int (nI 2), .int (nI 1), .int x3, .int (nI e), .null, .null] [] g) (RK g b kd (dLP kd b x3 t)) := by
  refine run_go hK (by omega) (d + 10) x3 2 1 e 2 30 (nI 0) (by omega) (by omega) (by omega) (by decide) (by decide) (by decide) (fun g2 hX F => ?_)
  rw [b_X0_workedOut_0]
  iterate 5 rw [m_if_neg (by decide)]
  rw [m_if_pos rfl]
  refine ok_bnd (x_pp hX (xb_fr hB F) (by rw [psh_n]; omega) d x3 0 (e + 1) (by omega) (by decide) (by omega)) ?_
  intro r g3 ⟨hr, q1, q2⟩
  subst hr
  rw [mp_some, b_X0_workedOut_188]
  exact ok_some ⟨rfl, q1, q2⟩
theorem x_pull {b kd : Nat} {t : Tr} {g : mG} (hK : XK b kd t g) (hB : XB b g) (ht : t.1 + 11 < 1000) (d : Nat) (x3 : Int32) (e : Nat) (he : e < 24) : Ok (ev none (d + 13) mm_X0_run 0 [.ref 39, .int (nI kd), .int (nI 1), .int x3, .int (nI e), .null, .null] [] g) (RK g b kd (dP kd b x3 t)) := by
  have k8 := hK.2.1
  by_cases c : kd = 3 ∨ kd = 5
  · rw [show dP kd b x3 t = dLP kd b (x3 + 1) (psh 41 t) from if_pos c]
    refine run_go hK (by omega) (d + 12) x3 kd 1 e 3 41 (nI 2) (by omega) (by omega) (by omega) (by rcases c with rfl | rfl <;> decide) (by decide) (by decide) (fun g2 hX F => ?_)
    rw [b_X0_workedOut_0]
    iterate 7 rw [m_if_neg (by decide)]
    rw [m_if_pos rfl]
    refine ok_bnd (x_lp hX (xb_fr hB F) (by rw [psh_n]; omega) d (x3 + 1) (e + 1) (by omega)) ?_
    intro r g3 ⟨hr, q1, q2⟩
    subst hr
    rw [mp_some, b_X0_workedOut_213]
    exact ok_some ⟨rfl, q1, q2⟩
  · by_cases c7 : kd = 7
    · rw [show dP kd b x3 t = ((dPP kd b x3 (psh 80 t)).1 + (dF kd b 2 (dPP kd b x3 (psh 80 t)).2).1, (dF kd b 2 (dPP kd b x3 (psh 80 t)).2).2) from (if_neg c).trans (if_pos c7)]
      refine run_go hK (by omega) (d + 12) x3 kd 1 e 7 80 (nI 6) (by omega) (by omega) (by omega) (by rw [c7]; decide) (by decide) (by decide) (fun g2 hX F => ?_)
      rw [b_X0_workedOut_0]
      iterate 12 rw [m_if_neg (by decide)]
      rw [m_if_pos rfl]
      refine ok_bnd (x_pp hX (xb_fr hB F) (by rw [psh_n]; omega) (d + 2) x3 6 (e + 1) (by omega) (by decide) (by omega)) ?_
      intro r g3 ⟨hr, q1, q2⟩
      subst hr
      rw [mp_some, b_X0_workedOut_278]
      have n1 := dPP_n (kd := kd) (b := b) (x := x3) (t := psh 80 t)
      rw [psh_n] at n1
      refine ok_bnd (x_own q1 (xb_fr (xb_fr hB F) q2) (d + 9) 2 2 (e + 1) (x_free q1 (xb_fr (xb_fr hB F) q2) (by omega) (d + 1) 2 (e + 1) (by omega))) ?_
      intro r g4 ⟨hr, q3, q4⟩
      subst hr
      rw [mp_some, b_X0_workedOut_286]
      exact ok_some ⟨rfl, q3, fr_trans q2 q4⟩
    · by_cases c2 : kd = 2
      · rw [show dP kd b x3 t = dLP kd b x3 t from (if_neg c).trans ((if_neg c7).trans (if_pos c2))]
        have := x_lp hK hB (by omega) (d + 2) x3 e (by omega)
        rw [show Value.int (nI kd) = Value.int (nI 2) by rw [c2]]
        exact this
      · rw [show dP kd b x3 t = dPP kd b x3 t from (if_neg c).trans ((if_neg c7).trans (if_neg c2))]
        refine x_pp hK hB (by omega) (d + 4) x3 kd e k8 ?_ (by omega)
        have h8 : kd = 0 ∨ kd = 1 ∨ kd = 4 ∨ kd = 6 := by omega
        rcases h8 with rfl | rfl | rfl | rfl <;> decide
theorem x_pt {b kd : Nat} {t : Tr} {g : mG} (hK : XK b kd t g) (hB : XB b g) (ht : t.1 + 18 < 1000) (d : Nat) (x3 : Int32) (k e : Nat) (hk : k < 8) (hj : cz 4 k 3 = 0) (he : e < 22) : Ok (ev none (d + 16) mm_X0_run 0 [.ref 39, .int (nI k), .int (nI 3), .int x3, .int (nI e), .null, .null] [] g) (RK g b kd (dPT kd b x3 t)) := by
  refine run_go hK (by omega) (d + 15) x3 k 3 e 0 2 _ hk (by omega) (by omega) hj (by decide) rfl (fun g2 hX F => ?_)
  rw [b_X0_workedOut_0]
  iterate 1 rw [m_if_neg (by decide)]
  rw [m_if_pos rfl]
  refine ok_bnd (x_own hX (xb_fr hB F) (d + 12) 1 x3 (e + 1) (x_pull hX (xb_fr hB F) (by rw [psh_n]; omega) d x3 (e + 1) (by omega))) ?_
  intro r g3 ⟨hr, q1, q2⟩
  subst hr
  rw [mp_some, b_X0_workedOut_139]
  have n1 := dP_n (kd := kd) (b := b) (x := x3) (t := psh 2 t)
  rw [psh_n] at n1
  refine ok_bnd (x_own q1 (xb_fr (xb_fr hB F) q2) (d + 12) 2 1 (e + 1) (x_free q1 (xb_fr (xb_fr hB F) q2) (by omega) (d + 4) 1 (e + 1) (by omega))) ?_
  intro r g4 ⟨hr, q3, q4⟩
  subst hr
  rw [mp_some, b_X0_workedOut_147]
  exact ok_some ⟨rfl, q3, fr_trans q2 q4⟩
theorem x_tell {b kd : Nat} {t : Tr} {g : mG} (hK : XK b kd t g) (hB : XB b g) (ht : t.1 + 19 < 1000) (d : Nat) (x3 : Int32) (e : Nat) (he : e < 20) : Ok (ev none (d + 18) mm_X0_run 0 [.ref 39, .int (nI kd), .int (nI 3), .int x3, .int (nI e), .null, .null] [] g) (RK g b kd (dT kd b x3 t)) := by
  have k8 := hK.2.1
  by_cases c4 : kd = 4
  · rw [show dT kd b x3 t = ((dPT kd b x3 (psh 50 t)).1 ^^^ 5, (dPT kd b x3 (psh 50 t)).2) from if_pos c4]
    refine run_go hK (by omega) (d + 17) x3 kd 3 e 4 50 (nI 1) (by omega) (by omega) (by omega) (by rw [c4]; decide) (by decide) (by decide) (fun g2 hX F => ?_)
    rw [b_X0_workedOut_0]
    iterate 8 rw [m_if_neg (by decide)]
    rw [m_if_pos rfl]
    refine ok_bnd (x_pt hX (xb_fr hB F) (by rw [psh_n]; omega) d x3 1 (e + 1) (by omega) (by decide) (by omega)) ?_
    intro r g3 ⟨hr, q1, q2⟩
    subst hr
    rw [mp_some, b_X0_workedOut_223]
    exact ok_some ⟨rfl, q1, q2⟩
  · by_cases c5 : kd = 5
    · rw [show dT kd b x3 t = ((dPT kd b x3 (psh 61 t)).1 + 1, (dPT kd b x3 (psh 61 t)).2) from (if_neg c4).trans (if_pos c5)]
      refine run_go hK (by omega) (d + 17) x3 kd 3 e 5 61 (nI 3) (by omega) (by omega) (by omega) (by rw [c5]; decide) (by decide) (by decide) (fun g2 hX F => ?_)
      rw [b_X0_workedOut_0]
      iterate 10 rw [m_if_neg (by decide)]
      rw [m_if_pos rfl]
      refine ok_bnd (x_pt hX (xb_fr hB F) (by rw [psh_n]; omega) d x3 3 (e + 1) (by omega) (by decide) (by omega)) ?_
      intro r g3 ⟨hr, q1, q2⟩
      subst hr
      rw [mp_some, b_X0_workedOut_254]
      exact ok_some ⟨rfl, q1, q2⟩
    · rw [show dT kd b x3 t = dPT kd b x3 t from (if_neg c4).trans (if_neg c5)]
      refine x_pt hK hB (by omega) (d + 2) x3 kd e k8 ?_ (by omega)
      have h8 : kd = 0 ∨ kd = 1 ∨ kd = 2 ∨ kd = 3 ∨ kd = 6 ∨ kd = 7 := by omega
      rcases h8 with rfl | rfl | rfl | rfl | rfl | rfl <;> decide
