/-! OPERATIONS (30): holding, in the class -/
theorem x_code1 {b kd : Nat} {t : Tr} {g : mG} (hK : XK b kd t g) (ht : t.1 + 1 < 1000) (d : Nat) (x1 x3 x6 : Int32) (e : Nat) (he : e < 30) : Ok (ev none (d + 2) mm_X0_run 48 [.ref 39, .int x1, .int (nI 0), .int x3, .int (nI e), .int (nI 0), .int x6] [] g) (fun r g2 => r = some (.int (dPH b x3 t).1) ∧ XK b kd (dPH b x3 t).2 g2 ∧ Fr sTX g g2) := by
  refine run_48 hK ht (d + 1) x1 x3 x6 0 0 e (by omega) (by omega) he (fun g2 hX F => ?_)
  rw [b_X0_workedOut_0, m_if_pos (by decide), hX.2.2.1]
  exact ok_some ⟨_, rfl, rfl, hX, F⟩
