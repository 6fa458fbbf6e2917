theorem o_image : op_image Inv 1299 := by
  intro g hI _
  obtain ⟨n, p, nb, W, hV, hR, hC, hP, hL, hG, hB, hS⟩ := hI
  have hn : n ≤ 6 := hV.1
  have hp : p ≤ 12 := hV.2.1
  have i5 : vp_in 5 6 := vp6 (k := 5) (by omega)
  obtain ⟨r1, r2, r3, r4, r5, r6, r7, r8⟩ := hR
  generalize hg0 : m_s1 (m_s1 (m_s1 (m_s1 (m_s1 (m_s1 g 35 8 1) 35 3 (g.1 1 12)) 35 4 (g.1 1 13)) 35 5 (g.1 1 14)) 35 6 (g.1 1 15)) 35 7 (g.1 1 17) = g0
  have w35 : g0.1 35 8 = 1 ∧ g0.1 35 3 = g.1 1 12 ∧ g0.1 35 4 = g.1 1 13 ∧ g0.1 35 5 = g.1 1 14 ∧ g0.1 35 6 = g.1 1 15 ∧ g0.1 35 7 = g.1 1 17 := by
    rw [← hg0]
    exact ⟨rfl, rfl, rfl, rfl, rfl, rfl⟩
  have w0 : ∀ c k, c ≠ 35 → g0.1 c k = g.1 c k := fun c k hc => by
    rw [← hg0, s1_ne hc, s1_ne hc, s1_ne hc, s1_ne hc, s1_ne hc, s1_ne hc]
  have w02 : g0.2 = g.2 := by rw [← hg0]; rfl
  have k0 := v_copy0 1297 g0 6 (by omega)
  have k1 := v_copy1 1297 (cpd g0 2 36 6) 6 (by omega)
  have k2 := v_copy2 1297 (cpd (cpd g0 2 36 6) 3 37 6) 6 (by omega)
  have k0' : ev none 1297 mm_X2_copy 0 [.ref 2, .ref 36, .int 6, .null] [] g0 = some (none, cpd g0 2 36 6) := k0
  have k1' : ev none 1297 mm_X2_copy 0 [.ref 3, .ref 37, .int 6, .null] [] (cpd g0 2 36 6) = _ := k1
  have k2' : ev none 1297 mm_X2_copy 0 [.ref 10, .ref 38, .int 6, .null] [] (cpd (cpd g0 2 36 6) 3 37 6) = _ := k2
  rw [b_X11_image_0, b_X2_take_0, hg0, k0', mb_some, mp_none, b_X2_take_58, k1', mb_some, mp_none, b_X2_take_71, k2', mb_some, mp_none, b_X2_take_84, mb_some, mp_none, b_X11_image_11, mi_in i5]
  generalize hg1 : cpd (cpd (cpd g0 2 36 6) 3 37 6) 10 38 6 = g1
  have z1 : ∀ c k, c < 35 ∨ 38 < c → g1.1 c k = g.1 c k := fun c k hc => by
    rw [← hg1, cpd_ne (by omega), cpd_ne (by omega), cpd_ne (by omega)]
    exact w0 c k (by omega)
  have z35 : ∀ k, g1.1 35 k = g0.1 35 k := fun k => by
    rw [← hg1, cpd_ne (by omega), cpd_ne (by omega), cpd_ne (by omega)]
  have z36 : ∀ k, k < 6 → g1.1 36 k = g.1 2 k ∧ g1.1 37 k = g.1 3 k ∧ g1.1 38 k = g.1 10 k := fun k hk => by
    rw [← hg1]
    refine ⟨?_, ?_, ?_⟩
    · rw [cpd_ne (by omega), cpd_ne (by omega), cpd_at hk, w0 _ _ (by omega)]
    · rw [cpd_ne (by omega), cpd_at hk, cpd_ne (by omega), w0 _ _ (by omega)]
    · rw [cpd_at hk, cpd_ne (by omega), cpd_ne (by omega), w0 _ _ (by omega)]
  have z2 : g1.2 = g.2 := by rw [← hg1]; exact w02
  have e10 : g1.1 10 (Int32.toNatClampNeg 5) = g.1 66 5 := (z1 10 5 (by omega)).trans (r3 5 (by omega)).2.2
  rw [e10]
  -- the model
  have hM : Ok (ev none 1299 mm_X12_image 0 [.ref 55, .null] [] g1) (fun r g2 => r = some (.int (g.1 66 5)) ∧ g2 = cpd (cpd (cpd (cpd (cpd (m_s1 (m_s1 (m_s1 (m_s1 g1 55 50 1) 55 51 (g1.1 55 14)) 55 52 (g1.1 55 1)) 55 53 (g1.1 55 4)) 56 83 n) 57 84 n) 64 85 p) 65 86 p) 66 87 6) := by
    rw [b_X12_image_0]
    generalize hm0 : m_s1 (m_s1 (m_s1 (m_s1 g1 55 50 1) 55 51 (g1.1 55 14)) 55 52 (g1.1 55 1)) 55 53 (g1.1 55 4) = m0
    have f1 : m0.1 55 1 = nI n := by
      rw [← hm0]
      exact (z1 55 1 (by omega)).trans hV.2.2.1
    have f4 : m0.1 55 4 = nI p := by
      rw [← hm0]
      exact (z1 55 4 (by omega)).trans hV.2.2.2.1
    have f66 : m0.1 66 5 = g.1 66 5 := by
      rw [← hm0]
      exact z1 66 5 (by omega)
    refine ok_loop (E := fun i (_ : Unit) g => ev none 1299 mm_X12_image 31 [.ref 55, .int (nI i)] [] g) (I := fun i _ g' => g' = cpd (cpd m0 56 83 i) 57 84 i) (P := n) ?_ ?_ 0 () m0 (by omega) (by rw [cpd_0, cpd_0])
    · intro i _ g' hi hg next
      have j1 : ∀ x : Option (Option Value × mG), m_in (nI i) 6 x = x := fun x => mi_nI (by omega) (by omega)
      have q1 : g'.1 55 1 = nI n := by
        rw [hg, cpd_ne (by omega), cpd_ne (by omega), f1]
      show Ok (ev none 1299 mm_X12_image 31 [.ref 55, .int (nI i)] [] g') _
      rw [b_X12_image_31, q1, m_if_pos (nI_lt hi (by omega)), j1, j1, j1, j1, pk_cl i (hx := rfl), hg, cpd_s2 (by decide) (by decide) (by decide) (by decide) (by decide), nI_1]
      exact next () _ rfl
    · intro _ g' hg
      have q1 : g'.1 55 1 = nI n := by
        rw [hg, cpd_ne (by omega), cpd_ne (by omega), f1]
      show Ok (ev none 1299 mm_X12_image 31 [.ref 55, .int (nI n)] [] g') _
      rw [b_X12_image_31, q1, m_if_neg (nI_nlt (Nat.le_refl _) (by omega))]
      have q4 : g'.1 55 4 = nI p := by
        rw [hg, cpd_ne (by omega), cpd_ne (by omega), f4]
      have q66 : g'.1 66 5 = g.1 66 5 := by
        rw [hg, cpd_ne (by omega), cpd_ne (by omega), f66]
      rw [← hg]
      clear hg
      refine ok_loop (E := fun i (_ : Unit) g => ev none 1299 mm_X12_image 71 [.ref 55, .int (nI i)] [] g) (I := fun i _ g2 => g2 = cpd (cpd g' 64 85 i) 65 86 i) (P := p) ?_ ?_ 0 () g' (by omega) (by rw [cpd_0, cpd_0])
      · intro i _ g2 hi hg next
        have j1 : ∀ x : Option (Option Value × mG), m_in (nI i) 12 x = x := fun x => mi_nI (by omega) (by omega)
        have q1 : g2.1 55 4 = nI p := by
          rw [hg, cpd_ne (by omega), cpd_ne (by omega), q4]
        show Ok (ev none 1299 mm_X12_image 71 [.ref 55, .int (nI i)] [] g2) _
        rw [b_X12_image_71, q1, m_if_pos (nI_lt hi (by omega)), j1, j1, j1, j1, pk_cl i (hx := rfl), hg, cpd_s2 (by decide) (by decide) (by decide) (by decide) (by decide), nI_1]
        exact next () _ rfl
      · intro _ g2 hg
        have q1 : g2.1 55 4 = nI p := by
          rw [hg, cpd_ne (by omega), cpd_ne (by omega), q4]
        have q66' : g2.1 66 5 = g.1 66 5 := by
          rw [hg, cpd_ne (by omega), cpd_ne (by omega), q66]
        show Ok (ev none 1299 mm_X12_image 71 [.ref 55, .int (nI p)] [] g2) _
        rw [b_X12_image_71, q1, m_if_neg (nI_nlt (Nat.le_refl _) (by omega)), ← hg]
        clear hg
        refine ok_loop (E := fun i (_ : Unit) g => ev none 1299 mm_X12_image 111 [.ref 55, .int (nI i)] [] g) (I := fun i _ g3 => g3 = cpd g2 66 87 i) (P := 6) ?_ ?_ 0 () g2 (by omega) (by rw [cpd_0])
        · intro i _ g3 hi hg next
          have j1 : ∀ x : Option (Option Value × mG), m_in (nI i) 6 x = x := fun x => mi_nI (by omega) (by omega)
          show Ok (ev none 1299 mm_X12_image 111 [.ref 55, .int (nI i)] [] g3) _
          rw [b_X12_image_111, m_if_pos (show nI i < 6 from nI_lt (b := 6) hi (by omega)), j1, j1, pk_cl i (hx := rfl), hg, cpd_s (by decide), nI_1]
          exact next () _ rfl
        · intro _ g3 hg
          show Ok (ev none 1299 mm_X12_image 111 [.ref 55, .int (nI 6)] [] g3) _
          rw [b_X12_image_111, m_if_neg (show ¬ nI 6 < 6 by decide), mi_in i5, hg]
          refine ok_some ⟨?_, rfl⟩
          have : (cpd g2 66 87 6).1 66 (Int32.toNatClampNeg 5) = g.1 66 5 := (cpd_ne (by omega)).trans q66'
          rw [this]
  obtain ⟨r, g2, h1, h2, h3⟩ := hM
  subst h2
  refine ⟨_, _, g2, rfl, h1, ?_⟩
  have y : ∀ c k, ¬ tG c k → g2.1 c k = g.1 c k := by
    intro c k hc
    unfold tG at hc
    rw [h3, cpd_ne (by omega), cpd_ne (by omega), cpd_ne (by omega), cpd_ne (by omega), cpd_ne (by omega)]
    by_cases c55 : c = 55
    · subst c55
      rw [s1_same (by omega), s1_same (by omega), s1_same (by omega), s1_same (by omega), z1 _ _ (by omega)]
    · rw [s1_ne c55, s1_ne c55, s1_ne c55, s1_ne c55, z1 _ _ (by omega)]
  have y2 : g2.2 = g.2 := by rw [h3]; exact z2
  obtain ⟨F, f1, f2, f3⟩ := r5
  obtain ⟨G, e1, e2, e3⟩ := r6
  have l35 : ∀ k, g2.1 35 k = g0.1 35 k := fun k => by
    rw [h3, cpd_ne (by omega), cpd_ne (by omega), cpd_ne (by omega), cpd_ne (by omega), cpd_ne (by omega), s1_ne (by omega), s1_ne (by omega), s1_ne (by omega), s1_ne (by omega), z35]
  have l36 : ∀ c k, 36 ≤ c → c ≤ 38 → g2.1 c k = g1.1 c k := fun c k h1 h2 => by
    rw [h3, cpd_ne (by omega), cpd_ne (by omega), cpd_ne (by omega), cpd_ne (by omega), cpd_ne (by omega), s1_ne (by omega), s1_ne (by omega), s1_ne (by omega), s1_ne (by omega)]
  refine ⟨n, p, nb, W, V_t (fun c k h => y c k (by unfold tT at h; unfold tG; omega)) hV, RX_t (fun c k h => y c k (by unfold tT at h; unfold tG; omega)) ⟨r1, r2, r3, r4, ⟨F, f1, f2, f3⟩, ⟨G, e1, e2, e3⟩, r7, r8⟩, C_t (fun c k h => y c k (by unfold tC at h; unfold tG; omega)) hC, P_t (fun c k h => y c k (by unfold tP at h; unfold tG; omega)) hP, L_t (fun c k h => y c k (by unfold tL at h; unfold tG; omega)) hL, ?_, B_t (fun c k h => y c k (by unfold tB at h; unfold tG; omega)) hB, S_t (fun c k h => y c k (by unfold tS at h; unfold tG; omega)) (fun c k _ => by rw [y2]) hS⟩
  refine Or.inr ⟨(l35 8).trans w35.1, ?_, n, p, F, G, Nat.le_refl _, Nat.le_refl _, f1, e1, ?_, ?_, ?_, ?_, ?_, ?_, ?_, ?_, ?_, ?_, ?_⟩
  · rw [h3]; rfl
  · rw [l35, w35.2.1, r1]
  · rw [l35, w35.2.2.1, r2]
  · rw [l35, w35.2.2.2.1, f2]
  · rw [l35, w35.2.2.2.2.1, e2]
  · rw [h3]
    exact (z1 55 1 (by omega)).trans hV.2.2.1
  · rw [h3]
    exact (z1 55 4 (by omega)).trans hV.2.2.2.1
  · rw [l35, w35.2.2.2.2.2, r8, h3]
    exact (z1 55 14 (by omega)).symm
  · have : g2.1 55 51 = g.1 55 14 := by
      rw [h3]
      exact z1 55 14 (by omega)
    rw [this]
    exact V_day hV
  · intro i hi
    have q : g2.1 83 i = g.1 56 i ∧ g2.1 84 i = g.1 57 i := by
      rw [h3]
      refine ⟨?_, ?_⟩
      · rw [cpd_ne (by omega), cpd_ne (by omega), cpd_ne (by omega), cpd_ne (by omega), cpd_at hi, s1_ne (by omega), s1_ne (by omega), s1_ne (by omega), s1_ne (by omega), z1 _ _ (by omega)]
      · rw [cpd_ne (by omega), cpd_ne (by omega), cpd_ne (by omega), cpd_at hi, cpd_ne (by omega), s1_ne (by omega), s1_ne (by omega), s1_ne (by omega), s1_ne (by omega), z1 _ _ (by omega)]
    rw [q.1, q.2, l36 36 i (by omega) (by omega), l36 37 i (by omega) (by omega), (z36 i (by omega)).1, (z36 i (by omega)).2.1]
    exact ⟨(r3 i (by omega)).1, (hV.2.2.2.2.1 i hi).1, (r3 i (by omega)).2.1, (hV.2.2.2.2.1 i hi).2⟩
  · intro i hi
    have q : g2.1 85 i = g.1 64 i ∧ g2.1 86 i = g.1 65 i := by
      rw [h3]
      refine ⟨?_, ?_⟩
      · rw [cpd_ne (by omega), cpd_ne (by omega), cpd_at hi, cpd_ne (by omega), cpd_ne (by omega), s1_ne (by omega), s1_ne (by omega), s1_ne (by omega), s1_ne (by omega), z1 _ _ (by omega)]
      · rw [cpd_ne (by omega), cpd_at hi, cpd_ne (by omega), cpd_ne (by omega), cpd_ne (by omega), s1_ne (by omega), s1_ne (by omega), s1_ne (by omega), s1_ne (by omega), z1 _ _ (by omega)]
    rw [q.1, q.2]
    exact ⟨f3 i (by omega), e3 i (by omega)⟩
  · intro i hi
    have q : g2.1 87 i = g.1 66 i := by
      rw [h3, cpd_at hi, cpd_ne (by omega), cpd_ne (by omega), cpd_ne (by omega), cpd_ne (by omega), s1_ne (by omega), s1_ne (by omega), s1_ne (by omega), s1_ne (by omega), z1 _ _ (by omega)]
    rw [q, l36 38 i (by omega) (by omega), (z36 i hi).2.2]
    exact (r3 i hi).2.2
