/-! OPERATIONS (30): holding, in the class -/
theorem x_code1 {b kd : Nat} {t : Tr} {g : mG} (hK : XK b kd t g) (ht : t.1 + 1 < 1000) (d : Nat) (x1 x3 x6 : Int32) (e : Nat) (he : e < 30) : Ok (ev none (d + 2) mm_X0_run 48 [.ref 39, .int x1, .int (nI 0), .int x3, .int (nI e), .int (nI 0), .int x6] [] g) (fun r g2 => r = some (.int (dPH b x3 t).1) ∧ XK b kd (dPH b x3 t).2 g2 ∧ Fr sTX g g2) := by
  refine run_48 hK ht (d + 1) x1 x3 x6 0 0 e (by omega) (by omega) he (fun g2 hX F => ?_)
  rw [b_X0_workedOut_0, m_if_pos (by decide), hX.2.2.1]
  exact ok_some ⟨_, rfl, rfl, hX, F⟩
theorem x_h0 {b kd : Nat} {t : Tr} {g : mG} (hK : XK b kd t g) (ht : t.1 + 1 < 1000) (d : Nat) (x3 : Int32) (k e : Nat) (hk : k = 0 ∨ k = 2 ∨ k = 3 ∨ k = 5) (he : e < 30) : Ok (ev none (d + 2) mm_X0_run 0 [.ref 39, .int (nI k), .int (nI 0), .int x3, .int (nI e), .null, .null] [] g) (fun r g2 => r = some (.int (dPH b x3 t).1) ∧ XK b kd (dPH b x3 t).2 g2 ∧ Fr sTX g g2) := by
  rw [b_X0_run_0, show (Value.int 0) = Value.int (nI 0) from rfl]
  have a3 : sa3.getD 3 0 = nI 2 := by decide
  have a2 : sa3.getD 2 0 = nI 0 := by decide
  have a5 : sa3.getD 5 0 = nI 3 := by decide
  have s0 : ∀ i, i < 8 → Ok (ev none (d + 2) mm_X0_run 6 [.ref 39, .int (nI k), .int (nI 0), .int x3, .int (nI e), .int (nI 0), .int (nI i)] [] g) (fun r g2 => r = some (.int (dPH b x3 t).1) ∧ XK b kd (dPH b x3 t).2 g2 ∧ Fr sTX g g2) := fun i hi => by
    rw [run_6 (d + 1) g (nI k) x3 (nI e) 0 0 i (by omega) (by omega) hi, m_if_neg (by decide)]
    exact x_code1 hK ht d _ _ _ e he
  have s2 : ∀ i, i < 7 → Ok (ev none (d + 2) mm_X0_run 6 [.ref 39, .int (nI k), .int (nI 0), .int x3, .int (nI e), .int (nI 2), .int (nI i)] [] g) (fun r g2 => r = some (.int (dPH b x3 t).1) ∧ XK b kd (dPH b x3 t).2 g2 ∧ Fr sTX g g2) := fun i hi => by
    rw [run_6 (d + 1) g (nI k) x3 (nI e) 2 0 i (by omega) (by omega) (by omega), m_if_pos (by decide), a2]
    exact s0 (i + 1) (by omega)
  have s3 : ∀ i, i < 6 → Ok (ev none (d + 2) mm_X0_run 6 [.ref 39, .int (nI k), .int (nI 0), .int x3, .int (nI e), .int (nI 3), .int (nI i)] [] g) (fun r g2 => r = some (.int (dPH b x3 t).1) ∧ XK b kd (dPH b x3 t).2 g2 ∧ Fr sTX g g2) := fun i hi => by
    rw [run_6 (d + 1) g (nI k) x3 (nI e) 3 0 i (by omega) (by omega) (by omega), m_if_pos (by decide), a3]
    exact s2 (i + 1) (by omega)
  rcases hk with rfl | rfl | rfl | rfl
  · exact s0 0 (by omega)
  · exact s2 0 (by omega)
  · exact s3 0 (by omega)
  · rw [run_6 (d + 1) g (nI 5) x3 (nI e) 5 0 0 (by omega) (by omega) (by omega), m_if_pos (by decide), a5]
    exact s3 1 (by omega)
theorem x_h6 {b kd : Nat} {t : Tr} {g : mG} (hK : XK b kd t g) (ht : t.1 + 2 < 1000) (d : Nat) (x3 : Int32) (e : Nat) (he : e < 29) : Ok (ev none (d + 4) mm_X0_run 0 [.ref 39, .int (nI 6), .int (nI 0), .int x3, .int (nI e), .null, .null] [] g) (fun r g2 => r = some (.int (dTH b x3 t).1) ∧ XK b kd (dTH b x3 t).2 g2 ∧ Fr sTX g g2) := by
  rw [b_X0_run_0, show (Value.int 0) = Value.int (nI 0) from rfl, run_6 (d + 3) g (nI 6) x3 (nI e) 6 0 0 (by omega) (by omega) (by omega), m_if_neg (by decide)]
  refine run_48 hK (by omega) (d + 3) _ _ _ 6 0 e (by omega) (by omega) (by omega) (fun g2 hX F => ?_)
  rw [show sa4.getD (6 * 4 + 0) 0 = 70 from rfl] at hX ⊢
  rw [show sa3.getD 6 0 = nI 0 from rfl, b_X0_workedOut_0]
  iterate 11 rw [m_if_neg (by decide)]
  rw [m_if_pos rfl]
  refine ok_bnd (x_h0 hX (by rw [psh_n]; omega) d x3 0 (e + 1) (Or.inl rfl) (by omega)) ?_
  intro r g3 ⟨hr, q1, q2⟩
  subst hr
  rw [mp_some, b_X0_workedOut_266]
  exact ok_some ⟨_, rfl, rfl, q1, fr_trans F q2⟩
