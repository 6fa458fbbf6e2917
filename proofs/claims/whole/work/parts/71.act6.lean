/-! OPERATIONS (31): holding, in the class, of every kind -/
theorem x_h1 {b kd : Nat} {t : Tr} {g : mG} (hK : XK b kd t g) (ht : t.1 + 2 < 1000) (d : Nat) (x3 : Int32) (k e : Nat) (hk : k = 1 ∨ k = 4) (he : e < 29) : Ok (ev none (d + 4) mm_X0_run 0 [.ref 39, .int (nI k), .int (nI 0), .int x3, .int (nI e), .null, .null] [] g) (fun r g2 => r = some (.int ((dPH b x3 (psh 20 t)).1 + 3)) ∧ XK b kd (dPH b x3 (psh 20 t)).2 g2 ∧ Fr sTX g g2) := by
  have s1' : ∀ i x6, i < 8 → x6 = nI i → Ok (ev none (d + 4) mm_X0_run 6 [.ref 39, .int (nI k), .int (nI 0), .int x3, .int (nI e), .int (nI 1), .int x6] [] g) (fun r g2 => r = some (.int ((dPH b x3 (psh 20 t)).1 + 3)) ∧ XK b kd (dPH b x3 (psh 20 t)).2 g2 ∧ Fr sTX g g2) := fun i x6 hi h6 => by
    rw [h6, run_6 (d + 3) g (nI k) x3 (nI e) 1 0 i (by omega) (by omega) hi, m_if_neg (by decide)]
    refine run_48 hK (by omega) (d + 3) _ _ _ 1 0 e (by omega) (by omega) (by omega) (fun g2 hX F => ?_)
    rw [show sa4.getD (1 * 4 + 0) 0 = 20 from rfl] at hX ⊢
    rw [show sa3.getD 1 0 = nI 0 from rfl, b_X0_workedOut_0]
    iterate 4 rw [m_if_neg (by decide)]
    rw [m_if_pos rfl]
    refine ok_bnd (x_h0 hX (by rw [psh_n]; omega) d x3 0 (e + 1) (Or.inl rfl) (by omega)) ?_
    intro r g3 ⟨hr, q1, q2⟩
    subst hr
    rw [mp_some, b_X0_workedOut_176]
    exact ok_some ⟨_, rfl, rfl, q1, fr_trans F q2⟩
  rw [b_X0_run_0, show (Value.int 0) = Value.int (nI 0) from rfl]
  rcases hk with rfl | rfl
  · exact s1' 0 _ (by omega) rfl
  · rw [run_6 (d + 3) g (nI 4) x3 (nI e) 4 0 0 (by omega) (by omega) (by omega), m_if_pos (by decide), show sa3.getD 4 0 = nI 1 from rfl]
    exact s1' 1 _ (by omega) rfl
theorem x_h7 {b kd : Nat} {t : Tr} {g : mG} (hK : XK b kd t g) (ht : t.1 + 3 < 1000) (d : Nat) (x3 : Int32) (e : Nat) (he : e < 28) : Ok (ev none (d + 6) mm_X0_run 0 [.ref 39, .int (nI 7), .int (nI 0), .int x3, .int (nI e), .null, .null] [] g) (fun r g2 => r = some (.int ((dTH b x3 (psh 81 t)).1 - 1)) ∧ XK b kd (dTH b x3 (psh 81 t)).2 g2 ∧ Fr sTX g g2) := by
  rw [b_X0_run_0, show (Value.int 0) = Value.int (nI 0) from rfl, run_6 (d + 5) g (nI 7) x3 (nI e) 7 0 0 (by omega) (by omega) (by omega), m_if_neg (by decide)]
  refine run_48 hK (by omega) (d + 5) _ _ _ 7 0 e (by omega) (by omega) (by omega) (fun g2 hX F => ?_)
  rw [show sa4.getD (7 * 4 + 0) 0 = 81 from rfl] at hX ⊢
  rw [show sa3.getD 7 0 = nI 6 from rfl, b_X0_workedOut_0]
  iterate 13 rw [m_if_neg (by decide)]
  rw [m_if_pos rfl]
  refine ok_bnd (x_h6 hX (by rw [psh_n]; omega) d x3 (e + 1) (by omega)) ?_
  intro r g3 ⟨hr, q1, q2⟩
  subst hr
  rw [mp_some, b_X0_workedOut_297]
  exact ok_some ⟨_, rfl, rfl, q1, fr_trans F q2⟩
