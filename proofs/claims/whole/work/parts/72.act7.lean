/-! OPERATIONS (32): the deeds, in the class: climbing, freeing -/
def pr3 (k : Nat) : Nat := Int32.toNatClampNeg (sa3.getD k 0)
def cz : Nat → Nat → Nat → Nat
  | 0, k, _ => k
  | f + 1, k, m => if sa4.getD (k * 4 + m) 0 = 0 then cz f (pr3 k) m else k
theorem pr3_ok : ∀ k, k < 8 → k ≠ 0 → sa3.getD k 0 = nI (pr3 k) ∧ pr3 k < 8 := by decide
theorem sa4_0 : ∀ m, m < 4 → sa4.getD (0 * 4 + m) 0 ≠ 0 := by decide
theorem cz_hit : ∀ k, k < 8 → ∀ m, m < 4 → sa4.getD (cz 4 k m * 4 + m) 0 ≠ 0 ∧ cz 4 k m < 8 := by decide
theorem run_cz (d : Nat) (g : mG) (x1 x3 x4 : Int32) (m : Nat) (hm : m < 4) : ∀ f k i, k < 8 → i + f < 8 → sa4.getD (cz f k m * 4 + m) 0 ≠ 0 → ∃ x6, ev none (d + 1) mm_X0_run 6 [.ref 39, .int x1, .int (nI m), .int x3, .int x4, .int (nI k), .int (nI i)] [] g = ev none (d + 1) mm_X0_run 48 [.ref 39, .int x1, .int (nI m), .int x3, .int x4, .int (nI (cz f k m)), .int x6] [] g := by
  intro f
  induction f with
  | zero =>
    intro k i hk hi h
    refine ⟨nI i, ?_⟩
    rw [run_6 d g x1 x3 x4 k m i hk hm (by omega), m_if_neg (show ¬ sa4.getD (k * 4 + m) 0 = 0 from h)]
    rfl
  | succ f ih =>
    intro k i hk hi h
    by_cases c : sa4.getD (k * 4 + m) 0 = 0
    · have k0 : k ≠ 0 := fun z => sa4_0 m hm (by rw [← z]; exact c)
      obtain ⟨p1, p2⟩ := pr3_ok k hk k0
      have ec : cz (f + 1) k m = cz f (pr3 k) m := if_pos c
      rw [ec] at h ⊢
      rw [run_6 d g x1 x3 x4 k m i hk hm (by omega), m_if_pos c, p1]
      exact ih (pr3 k) (i + 1) p2 (by omega) h
    · have ec : cz (f + 1) k m = k := if_neg c
      rw [ec]
      refine ⟨nI i, ?_⟩
      rw [run_6 d g x1 x3 x4 k m i hk hm (by omega), m_if_neg c]
def RK (g : mG) (b kd : Nat) (res : Int32 × Tr) : Option Value → mG → Prop := fun r g2 => r = some (.int res.1) ∧ XK b kd res.2 g2 ∧ Fr sTX g g2
theorem run_go {b kd : Nat} {t : Tr} {g : mG} (hK : XK b kd t g) (ht : t.1 + 1 < 1000) (d : Nat) (x3 : Int32) (k m e j : Nat) (c p : Int32) (hk : k < 8) (hm : m < 4) (he : e < 30) (hj : cz 4 k m = j) (hc : sa4.getD (j * 4 + m) 0 = c) (hp : sa3.getD j 0 = p) {res : Int32 × Tr} (hq : ∀ g2, XK b kd (psh c t) g2 → Fr sTX g g2 → Ok (ev none d mm_X0_workedOut 0 [.ref 39, .int c, .int p, .int x3, .int (nI (e + 1))] [] g2) (RK g2 b kd res)) : Ok (ev none (d + 1) mm_X0_run 0 [.ref 39, .int (nI k), .int (nI m), .int x3, .int (nI e), .null, .null] [] g) (RK g b kd res) := by
  subst hj
  subst hc
  subst hp
  obtain ⟨c1, c2⟩ := cz_hit k hk m hm
  obtain ⟨x6, h6⟩ := run_cz d g (nI k) x3 (nI e) m hm 4 k 0 hk (by omega) c1
  rw [b_X0_run_0, show (Value.int 0) = Value.int (nI 0) from rfl, h6]
  refine run_48 hK ht d _ _ _ (cz 4 k m) m e c2 hm he (fun g2 hX F => ?_)
  refine ok_mono (hq g2 hX F) ?_
  intro r g3 ⟨q1, q2, q3⟩
  exact ⟨_, q1, rfl, q2, fr_trans F q3⟩
theorem x_hold {b kd : Nat} {t : Tr} {g : mG} (hK : XK b kd t g) (ht : t.1 + 3 < 1000) (d : Nat) (x3 : Int32) (k e : Nat) (hk : k < 8) (he : e < 28) : Ok (ev none (d + 6) mm_X0_run 0 [.ref 39, .int (nI k), .int (nI 0), .int x3, .int (nI e), .null, .null] [] g) (RK g b kd (dH k b x3 t)) := by
  by_cases c : k = 1 ∨ k = 4
  · rw [show dH k b x3 t = ((dPH b x3 (psh 20 t)).1 + 3, (dPH b x3 (psh 20 t)).2) from if_pos c]
    exact x_h1 hK (by omega) (d + 2) x3 k e c (by omega)
  · by_cases c7 : k = 7
    · rw [show dH k b x3 t = ((dTH b x3 (psh 81 t)).1 - 1, (dTH b x3 (psh 81 t)).2) from (if_neg c).trans (if_pos c7), c7]
      exact x_h7 hK (by omega) d x3 e (by omega)
    · by_cases c6 : k = 6
      · rw [show dH k b x3 t = dTH b x3 t from (if_neg c).trans ((if_neg c7).trans (if_pos c6)), c6]
        exact x_h6 hK (by omega) (d + 2) x3 e (by omega)
      · rw [show dH k b x3 t = dPH b x3 t from (if_neg c).trans ((if_neg c7).trans (if_neg c6))]
        exact x_h0 hK (by omega) (d + 4) x3 k e (by omega) (by omega)
/-- the body is there -/
def XB (b : Nat) (g : mG) : Prop := ∃ nb, b < nb ∧ nb ≤ 50 ∧ g.1 39 2 = nI nb
theorem xb_fr {b : Nat} {g g2 : mG} (h : XB b g) (F : Fr sTX g g2) : XB b g2 := by
  obtain ⟨nb, h1, h2, h3⟩ := h
  exact ⟨nb, h1, h2, (F.1 39 2 rfl).trans h3⟩
theorem x_own {b kd : Nat} {t : Tr} {g : mG} (hK : XK b kd t g) (hB : XB b g) (d : Nat) (m : Nat) (x : Int32) (e : Nat) {res : Int32 × Tr} (hq : Ok (ev none (d + 1) mm_X0_run 0 [.ref 39, .int (nI kd), .int (nI m), .int x, .int (nI e), .null, .null] [] g) (RK g b kd res)) : Ok (ev none (d + 2) mm_X0_own 0 [.ref 39, .int (nI m), .int x, .int (nI e)] [] g) (RK g b kd res) := by
  obtain ⟨k1, k2, k3, k4, k5, k6, k7⟩ := hK
  obtain ⟨nb, h1, h2, h3⟩ := hB
  rw [b_X0_own_0, k3, b_X0_kindOf_0, b_X0_has_0, m_if_neg (nI_pos (n := b) (by omega)), h3, m_if_pos ((nI_ltI (by omega) (by omega)).mpr h1), mb_some, mp_some, b_X0_kindOf_5, m_if_neg (by decide), mi_nI k1 (by omega), pk_cl b (hx := rfl), k4, mb_some, mp_some, b_X0_own_9]
  refine ok_bnd hq ?_
  intro r g2 ⟨q1, q2, q3⟩
  subst q1
  rw [mp_some, b_X0_own_15]
  exact ok_some ⟨rfl, q2, q3⟩
theorem x_pf {b kd : Nat} {t : Tr} {g : mG} (hK : XK b kd t g) (ht : t.1 + 1 < 1000) (d : Nat) (x3 : Int32) (k e : Nat) (hk : k < 8) (hj : cz 4 k 2 = 0) (he : e < 30) : Ok (ev none (d + 2) mm_X0_run 0 [.ref 39, .int (nI k), .int (nI 2), .int x3, .int (nI e), .null, .null] [] g) (RK g b kd (dPF b x3 t)) := by
  refine run_go hK ht (d + 1) x3 k 2 e 0 11 _ hk (by omega) he hj (by decide) rfl (fun g2 hX F => ?_)
  rw [b_X0_workedOut_0]
  iterate 3 rw [m_if_neg (by decide)]
  rw [m_if_pos rfl, hX.2.2.1]
  exact ok_some ⟨rfl, hX, fr_refl⟩
theorem x_hf {b kd : Nat} {t : Tr} {g : mG} (hK : XK b kd t g) (ht : t.1 + 2 < 1000) (d : Nat) (x3 : Int32) (e : Nat) (he : e < 29) : Ok (ev none (d + 4) mm_X0_run 0 [.ref 39, .int (nI 3), .int (nI 2), .int x3, .int (nI e), .null, .null] [] g) (RK g b kd (dHF b x3 t)) := by
  refine run_go hK (by omega) (d + 3) x3 3 2 e 3 40 (nI 2) (by omega) (by omega) (by omega) (by decide) (by decide) (by decide) (fun g2 hX F => ?_)
  rw [b_X0_workedOut_0]
  iterate 6 rw [m_if_neg (by decide)]
  rw [m_if_pos rfl]
  refine ok_bnd (x_pf hX (by rw [psh_n]; omega) d x3 2 (e + 1) (by omega) (by decide) (by omega)) ?_
  intro r g3 ⟨hr, q1, q2⟩
  subst hr
  rw [mp_some, b_X0_workedOut_199]
  exact ok_some ⟨rfl, q1, q2⟩
theorem x_free {b kd : Nat} {t : Tr} {g : mG} (hK : XK b kd t g) (hB : XB b g) (ht : t.1 + 6 < 1000) (d : Nat) (x3 : Int32) (e : Nat) (he : e < 26) : Ok (ev none (d + 9) mm_X0_run 0 [.ref 39, .int (nI kd), .int (nI 2), .int x3, .int (nI e), .null, .null] [] g) (RK g b kd (dF kd b x3 t)) := by
  by_cases c5 : kd = 5
  · rw [show dF kd b x3 t = ((dHF b x3 (psh 60 t)).1 - (dH kd b 2 (dHF b x3 (psh 60 t)).2).1, (dH kd b 2 (dHF b x3 (psh 60 t)).2).2) from if_pos c5]
    refine run_go hK (by omega) (d + 8) x3 kd 2 e 5 60 (nI 3) (by omega) (by omega) (by omega) (by rw [c5]; decide) (by decide) (by decide) (fun g2 hX F => ?_)
    rw [b_X0_workedOut_0]
    iterate 9 rw [m_if_neg (by decide)]
    rw [m_if_pos rfl]
    refine ok_bnd (x_hf hX (by rw [psh_n]; omega) (d + 3) x3 (e + 1) (by omega)) ?_
    intro r g3 ⟨hr, q1, q2⟩
    subst hr
    rw [mp_some, b_X0_workedOut_235]
    have n1 : (dHF b x3 (psh 60 t)).2.1 = t.1 + 3 := rfl
    refine ok_bnd (x_own q1 (xb_fr (xb_fr hB F) q2) (d + 5) 0 2 (e + 1) (x_hold q1 (by omega) d 2 kd (e + 1) (by omega) (by omega))) ?_
    intro r g4 ⟨hr, q3, q4⟩
    subst hr
    rw [mp_some, b_X0_workedOut_243]
    exact ok_some ⟨rfl, q3, fr_trans q2 q4⟩
  · by_cases c3 : kd = 3
    · rw [show dF kd b x3 t = dHF b x3 t from (if_neg c5).trans (if_pos c3)]
      have := x_hf hK (by omega) (d + 5) x3 e (by omega)
      rw [← c3] at this
      exact this
    · rw [show dF kd b x3 t = dPF b x3 t from (if_neg c5).trans (if_neg c3)]
      have k8 := hK.2.1
      refine x_pf hK (by omega) (d + 7) x3 kd e (by omega) ?_ (by omega)
      have h8 : kd = 0 ∨ kd = 1 ∨ kd = 2 ∨ kd = 4 ∨ kd = 6 ∨ kd = 7 := by omega
      rcases h8 with rfl | rfl | rfl | rfl | rfl | rfl <;> decide
