theorem BT_back {x : Int32} {f fk : Nat → Int32} {F kp : Nat} (h : BT x f) (hF : F < 4096) (hkp : kp ≤ 12) (hf : ∀ i, i < kp → fk i = b2 (F.testBit i = true)) {f2 : Nat → Int32} (h2 : ∀ i, f2 i = if i < kp then fk i else f i) : BT ((x &&& ((((1 : Int32) <<< (nI kp &&& 31)) - 1) ^^^ -1)) ||| (nI F &&& (((1 : Int32) <<< (nI kp &&& 31)) - 1))) f2 := by
  obtain ⟨G, g1, g2, g3⟩ := h
  have hp : 0 < 2 ^ kp := Nat.two_pow_pos kp
  have e1 : ((1 : Int32) <<< (nI kp &&& 31)) - 1 = nI (2 ^ kp - 1) := by
    rw [t_sh1 kp (by omega)]
    exact pk_sub (b := 1) (by omega)
  have hb : ∀ i, (2 ^ kp - 1).testBit i = decide (i < kp) := fun i => Nat.testBit_two_pow_sub_one kp i
  have hl : F &&& (2 ^ kp - 1) < 2 ^ 12 := Nat.lt_of_le_of_lt Nat.and_le_left hF
  refine ⟨adn G (2 ^ kp - 1) ||| (F &&& (2 ^ kp - 1)), Nat.or_lt_two_pow (n := 12) (Nat.lt_of_le_of_lt (adn_le _ _) g1) hl, ?_, ?_⟩
  · rw [g2, e1, t_not, t_and, t_or]
  · intro i hi
    rw [h2 i]
    by_cases c : i < kp
    · rw [if_pos c, hf i c]
      refine b2_c ?_
      rw [Nat.testBit_or, adn_bit, Nat.testBit_and, hb, decide_eq_true c]
      simp
    · rw [if_neg c, g3 i hi]
      refine b2_c ?_
      rw [Nat.testBit_or, adn_bit, Nat.testBit_and, hb, decide_eq_false c]
      simp
theorem o_back : op_back Inv 1299 := by
  intro g hI _
  have hI0 := hI
  obtain ⟨n, p, nb, W, hV, hR, hC, hP, hL, hG, hB, hS⟩ := hI
  have hn : n ≤ 6 := hV.1
  have hp : p ≤ 12 := hV.2.1
  have i5 : vp_in 5 6 := vp6 (k := 5) (by omega)
  have hG0 := hG
  rcases hG with ⟨q1, q2⟩ | ⟨q1, q2, kn, kp, F, G, k1, k2, k3, k4, k5, k6, k7, k8, k9, k10, k11, k12, k13, k14, k15⟩
  · refine op_bad (-5) hI0 ?_ ?_
    · rw [b_X11_back_0, m_if_pos q1]
    · rw [b_X12_back_0, m_if_pos q2]
  obtain ⟨r1, r2, r3, r4, r5, r6, r7, r8⟩ := hR
  obtain ⟨v1, v2, v3, v4, v5, v6, v7, v8, v9, v10⟩ := hV
  rw [b_X11_back_0, m_if_neg (by rw [q1]; decide), b_X2_layBack_0, k5, k6, k7, k8]
  generalize hA : (g.1 1 14 &&& ((((1 : Int32) <<< (nI kp &&& 31)) - 1) ^^^ -1)) ||| (nI F &&& (((1 : Int32) <<< (nI kp &&& 31)) - 1)) = A
  generalize hBb : (g.1 1 15 &&& ((((1 : Int32) <<< (nI kp &&& 31)) - 1) ^^^ -1)) ||| (nI G &&& (((1 : Int32) <<< (nI kp &&& 31)) - 1)) = B
  generalize hg0 : m_s1 (m_s1 (m_s1 g 1 14 A) 1 15 B) 1 17 (g.1 35 7) = g0
  have w1 : g0.1 1 14 = A ∧ g0.1 1 15 = B ∧ g0.1 1 17 = g.1 35 7 ∧ g0.1 1 12 = g.1 1 12 ∧ g0.1 1 13 = g.1 1 13 ∧ g0.1 1 16 = g.1 1 16 := by
    rw [← hg0]
    exact ⟨rfl, rfl, rfl, rfl, rfl, rfl⟩
  have w0 : ∀ c k, c ≠ 1 → g0.1 c k = g.1 c k := fun c k hc => by
    rw [← hg0, s1_ne hc, s1_ne hc, s1_ne hc]
  have w02 : g0.2 = g.2 := by rw [← hg0]; rfl
  have u3 : (cpd g0 36 2 kn).1 35 3 = nI kn := by rw [cpd_ne (by omega), w0 _ _ (by omega), k5]
  have c3 := v_copy3 1297 g0 kn (by omega)
  have c4 := v_copy4 1297 (cpd g0 36 2 kn) kn (by omega)
  have c5 : ev none 1297 mm_X2_copy 0 [.ref 38, .ref 10, .int 6, .null] [] (cpd (cpd g0 36 2 kn) 37 3 kn) = _ := v_copy5 1297 (cpd (cpd g0 36 2 kn) 37 3 kn) 6 (by omega)
  rw [c3, mb_some, mp_none, b_X2_layBack_70, u3, c4, mb_some, mp_none, b_X2_layBack_85, c5, mb_some, mp_none, b_X2_layBack_98, mb_some, mp_none, b_X11_back_24, mi_in i5]
  generalize hg1 : cpd (cpd (cpd g0 36 2 kn) 37 3 kn) 38 10 6 = g1
  have z1 : ∀ c k, c ≠ 1 → c ≠ 2 → c ≠ 3 → c ≠ 10 → g1.1 c k = g.1 c k := fun c k h1 h2 h3 h4 => by
    rw [← hg1, cpd_ne (by omega), cpd_ne (by omega), cpd_ne (by omega)]
    exact w0 c k (by omega)
  have z11 : ∀ k, g1.1 1 k = g0.1 1 k := fun k => by
    rw [← hg1, cpd_ne (by omega), cpd_ne (by omega), cpd_ne (by omega)]
  have z21 : ∀ i, g1.1 2 i = if i < kn then g.1 36 i else g.1 2 i := fun i => by
    rw [← hg1, cpd_ne (by omega), cpd_ne (by omega)]
    by_cases c : i < kn
    · rw [cpd_at c, if_pos c, w0 _ _ (by omega)]
    · rw [cpd_hi c, if_neg c, w0 _ _ (by omega)]
  have z31 : ∀ i, g1.1 3 i = if i < kn then g.1 37 i else g.1 3 i := fun i => by
    rw [← hg1, cpd_ne (by omega)]
    by_cases c : i < kn
    · rw [cpd_at c, if_pos c, cpd_ne (by omega), w0 _ _ (by omega)]
    · rw [cpd_hi c, if_neg c, cpd_ne (by omega), w0 _ _ (by omega)]
  have z10 : ∀ i, i < 6 → g1.1 10 i = g.1 38 i := fun i hi => by
    rw [← hg1, cpd_at hi, cpd_ne (by omega), cpd_ne (by omega), w0 _ _ (by omega)]
  have z2 : g1.2 = g.2 := by rw [← hg1]; exact w02
  have e10 : g1.1 10 (Int32.toNatClampNeg 5) = g.1 87 5 := (z10 5 (by omega)).trans (k15 5 (by omega))
  rw [e10]
  have hM : Ok (ev none 1299 mm_X12_back 0 [.ref 55, .null] [] g1) (fun r g2 => r = some (.int (g.1 87 5)) ∧ g2 = cpd (cpd (cpd (cpd (cpd (m_s1 g1 55 14 (g1.1 55 51)) 83 56 kn) 84 57 kn) 85 64 kp) 86 65 kp) 87 66 6) := by
    have q50 : g1.1 55 50 = 1 := (z1 55 50 (by omega) (by omega) (by omega) (by omega)).trans q2
    rw [b_X12_back_0, m_if_neg (by rw [q50]; decide)]
    generalize hm0 : m_s1 g1 55 14 (g1.1 55 51) = m0
    have f1 : m0.1 55 52 = nI kn := by
      rw [← hm0]
      exact (z1 55 52 (by omega) (by omega) (by omega) (by omega)).trans k9
    have f4 : m0.1 55 53 = nI kp := by
      rw [← hm0]
      exact (z1 55 53 (by omega) (by omega) (by omega) (by omega)).trans k10
    have f87 : m0.1 87 5 = g.1 87 5 := by
      rw [← hm0]
      exact z1 87 5 (by omega) (by omega) (by omega) (by omega)
    refine ok_loop (E := fun i (_ : Unit) g => ev none 1299 mm_X12_back 20 [.ref 55, .int (nI i)] [] g) (I := fun i _ g' => g' = cpd (cpd m0 83 56 i) 84 57 i) (P := kn) ?_ ?_ 0 () m0 (by omega) (by rw [cpd_0, cpd_0])
    · intro i _ g' hi hg next
      have j1 : ∀ x : Option (Option Value × mG), m_in (nI i) 6 x = x := fun x => mi_nI (by omega) (by omega)
      have q1 : g'.1 55 52 = nI kn := by
        rw [hg, cpd_ne (by omega), cpd_ne (by omega), f1]
      show Ok (ev none 1299 mm_X12_back 20 [.ref 55, .int (nI i)] [] g') _
      rw [b_X12_back_20, q1, m_if_pos (nI_lt hi (by omega)), j1, j1, j1, j1, pk_cl i (hx := rfl), hg, cpd_s2 (by decide) (by decide) (by decide) (by decide) (by decide), nI_1]
      exact next () _ rfl
    · intro _ g' hg
      have q1 : g'.1 55 52 = nI kn := by
        rw [hg, cpd_ne (by omega), cpd_ne (by omega), f1]
      show Ok (ev none 1299 mm_X12_back 20 [.ref 55, .int (nI kn)] [] g') _
      rw [b_X12_back_20, q1, m_if_neg (nI_nlt (Nat.le_refl _) (by omega))]
      have q4 : g'.1 55 53 = nI kp := by
        rw [hg, cpd_ne (by omega), cpd_ne (by omega), f4]
      have q87 : g'.1 87 5 = g.1 87 5 := by
        rw [hg, cpd_ne (by omega), cpd_ne (by omega), f87]
      rw [← hg]
      clear hg
      refine ok_loop (E := fun i (_ : Unit) g => ev none 1299 mm_X12_back 60 [.ref 55, .int (nI i)] [] g) (I := fun i _ g2 => g2 = cpd (cpd g' 85 64 i) 86 65 i) (P := kp) ?_ ?_ 0 () g' (by omega) (by rw [cpd_0, cpd_0])
      · intro i _ g2 hi hg next
        have j1 : ∀ x : Option (Option Value × mG), m_in (nI i) 12 x = x := fun x => mi_nI (by omega) (by omega)
        have q1 : g2.1 55 53 = nI kp := by
          rw [hg, cpd_ne (by omega), cpd_ne (by omega), q4]
        show Ok (ev none 1299 mm_X12_back 60 [.ref 55, .int (nI i)] [] g2) _
        rw [b_X12_back_60, q1, m_if_pos (nI_lt hi (by omega)), j1, j1, j1, j1, pk_cl i (hx := rfl), hg, cpd_s2 (by decide) (by decide) (by decide) (by decide) (by decide), nI_1]
        exact next () _ rfl
      · intro _ g2 hg
        have q1 : g2.1 55 53 = nI kp := by
          rw [hg, cpd_ne (by omega), cpd_ne (by omega), q4]
        have q87' : g2.1 87 5 = g.1 87 5 := by
          rw [hg, cpd_ne (by omega), cpd_ne (by omega), q87]
        show Ok (ev none 1299 mm_X12_back 60 [.ref 55, .int (nI kp)] [] g2) _
        rw [b_X12_back_60, q1, m_if_neg (nI_nlt (Nat.le_refl _) (by omega)), ← hg]
        clear hg
        refine ok_loop (E := fun i (_ : Unit) g => ev none 1299 mm_X12_back 100 [.ref 55, .int (nI i)] [] g) (I := fun i _ g3 => g3 = cpd g2 87 66 i) (P := 6) ?_ ?_ 0 () g2 (by omega) (by rw [cpd_0])
        · intro i _ g3 hi hg next
          have j1 : ∀ x : Option (Option Value × mG), m_in (nI i) 6 x = x := fun x => mi_nI (by omega) (by omega)
          show Ok (ev none 1299 mm_X12_back 100 [.ref 55, .int (nI i)] [] g3) _
          rw [b_X12_back_100, m_if_pos (show nI i < 6 from nI_lt (b := 6) hi (by omega)), j1, j1, pk_cl i (hx := rfl), hg, cpd_s (by decide), nI_1]
          exact next () _ rfl
        · intro _ g3 hg
          show Ok (ev none 1299 mm_X12_back 100 [.ref 55, .int (nI 6)] [] g3) _
          rw [b_X12_back_100, m_if_neg (show ¬ nI 6 < 6 by decide), mi_in i5, hg]
          refine ok_some ⟨?_, rfl⟩
          have : (cpd g2 87 66 6).1 66 (Int32.toNatClampNeg 5) = g.1 87 5 := (cpd_at (m := 5) (by omega)).trans q87'
          rw [this]
  obtain ⟨r, g2, h1, h2, h3⟩ := hM
  subst h2
  refine ⟨_, _, g2, rfl, h1, ?_⟩
  have y : ∀ c k, ¬ tT c k → g2.1 c k = g.1 c k := by
    intro c k hc
    unfold tT at hc
    rw [h3, cpd_ne (by omega), cpd_ne (by omega), cpd_ne (by omega), cpd_ne (by omega), cpd_ne (by omega)]
    by_cases c55 : c = 55
    · subst c55
      rw [s1_same (by omega), z1 _ _ (by omega) (by omega) (by omega) (by omega)]
    · rw [s1_ne c55, z1 _ _ (by omega) (by omega) (by omega) (by omega)]
  have y2 : g2.2 = g.2 := by rw [h3]; exact z2
  have x1 : ∀ c k, c < 55 → g2.1 c k = g1.1 c k := fun c k hc => by
    rw [h3, cpd_ne (by omega), cpd_ne (by omega), cpd_ne (by omega), cpd_ne (by omega), cpd_ne (by omega), s1_ne (by omega)]
  have x55 : ∀ k, k ≠ 14 → g2.1 55 k = g.1 55 k := fun k hk => by
    rw [h3, cpd_ne (by omega), cpd_ne (by omega), cpd_ne (by omega), cpd_ne (by omega), cpd_ne (by omega), s1_same hk, z1 _ _ (by omega) (by omega) (by omega) (by omega)]
  have x14 : g2.1 55 14 = g.1 55 51 := by
    rw [h3, cpd_ne (by omega), cpd_ne (by omega), cpd_ne (by omega), cpd_ne (by omega), cpd_ne (by omega), s1_at, z1 _ _ (by omega) (by omega) (by omega) (by omega)]
  have x58 : ∀ c k, 58 ≤ c → c ≤ 63 → g2.1 c k = g.1 c k := fun c k c1 c2 => by
    rw [h3, cpd_ne (by omega), cpd_ne (by omega), cpd_ne (by omega), cpd_ne (by omega), cpd_ne (by omega), s1_ne (by omega), z1 _ _ (by omega) (by omega) (by omega) (by omega)]
  have x56 : ∀ i, g2.1 56 i = if i < kn then g.1 83 i else g.1 56 i := fun i => by
    rw [h3, cpd_ne (by omega), cpd_ne (by omega), cpd_ne (by omega), cpd_ne (by omega)]
    by_cases c : i < kn
    · rw [cpd_at c, if_pos c, s1_ne (by omega), z1 _ _ (by omega) (by omega) (by omega) (by omega)]
    · rw [cpd_hi c, if_neg c, s1_ne (by omega), z1 _ _ (by omega) (by omega) (by omega) (by omega)]
  have x57 : ∀ i, g2.1 57 i = if i < kn then g.1 84 i else g.1 57 i := fun i => by
    rw [h3, cpd_ne (by omega), cpd_ne (by omega), cpd_ne (by omega)]
    by_cases c : i < kn
    · rw [cpd_at c, if_pos c, cpd_ne (by omega), s1_ne (by omega), z1 _ _ (by omega) (by omega) (by omega) (by omega)]
    · rw [cpd_hi c, if_neg c, cpd_ne (by omega), s1_ne (by omega), z1 _ _ (by omega) (by omega) (by omega) (by omega)]
  have x64 : ∀ i, g2.1 64 i = if i < kp then g.1 85 i else g.1 64 i := fun i => by
    rw [h3, cpd_ne (by omega), cpd_ne (by omega)]
    by_cases c : i < kp
    · rw [cpd_at c, if_pos c, cpd_ne (by omega), cpd_ne (by omega), s1_ne (by omega), z1 _ _ (by omega) (by omega) (by omega) (by omega)]
    · rw [cpd_hi c, if_neg c, cpd_ne (by omega), cpd_ne (by omega), s1_ne (by omega), z1 _ _ (by omega) (by omega) (by omega) (by omega)]
  have x65 : ∀ i, g2.1 65 i = if i < kp then g.1 86 i else g.1 65 i := fun i => by
    rw [h3, cpd_ne (by omega)]
    by_cases c : i < kp
    · rw [cpd_at c, if_pos c, cpd_ne (by omega), cpd_ne (by omega), cpd_ne (by omega), s1_ne (by omega), z1 _ _ (by omega) (by omega) (by omega) (by omega)]
    · rw [cpd_hi c, if_neg c, cpd_ne (by omega), cpd_ne (by omega), cpd_ne (by omega), s1_ne (by omega), z1 _ _ (by omega) (by omega) (by omega) (by omega)]
  have x66 : ∀ i, i < 6 → g2.1 66 i = g.1 87 i := fun i hi => by
    rw [h3, cpd_at hi, cpd_ne (by omega), cpd_ne (by omega), cpd_ne (by omega), cpd_ne (by omega), s1_ne (by omega), z1 _ _ (by omega) (by omega) (by omega) (by omega)]
  have hV2 : V n p g2.1 := by
    refine ⟨v1, v2, (x55 1 (by omega)).trans v3, (x55 4 (by omega)).trans v4, fun i hi => ?_, fun i hi => ?_, fun i hi => ?_, fun i h1 h2 => ?_, ?_, ?_⟩
    · rw [x56, x57]
      by_cases c : i < kn
      · rw [if_pos c, if_pos c]
        exact ⟨(k13 i c).2.1, (k13 i c).2.2.2⟩
      · rw [if_neg c, if_neg c]
        exact v5 i hi
    · rw [x58 58 i (by omega) (by omega), x58 59 i (by omega) (by omega), x58 60 i (by omega) (by omega), x58 61 i (by omega) (by omega), x58 62 i (by omega) (by omega), x58 63 i (by omega) (by omega)]
      exact v6 i hi
    · rw [x64, x65]
      by_cases c : i < kp
      · rw [if_pos c, if_pos c, (k14 i c).1, (k14 i c).2]
        exact ⟨b2_ix _, b2_ix _⟩
      · rw [if_neg c, if_neg c]
        exact v7 i hi
    · rw [x64, x65, if_neg (by omega), if_neg (by omega)]
      exact v8 i h1 h2
    · rw [x55 13 (by omega)]; exact v9
    · rw [x14]; exact k12
  have hR2 : RX n p g2.1 g2 := by
    refine ⟨?_, ?_, fun i hi => ?_, fun i hi => ?_, ?_, ?_, ?_, ?_⟩
    · rw [x1 1 12 (by omega), z11, w1.2.2.2.1, r1]
    · rw [x1 1 13 (by omega), z11, w1.2.2.2.2.1, r2]
    · rw [x1 2 i (by omega), x1 3 i (by omega), x1 10 i (by omega), z21, z31, z10 i hi, x56, x57, x66 i hi]
      by_cases c : i < kn
      · rw [if_pos c, if_pos c, if_pos c, if_pos c]
        exact ⟨(k13 i c).1, (k13 i c).2.2.1, k15 i hi⟩
      · rw [if_neg c, if_neg c, if_neg c, if_neg c]
        exact ⟨(r3 i hi).1, (r3 i hi).2.1, k15 i hi⟩
    · rw [x1 4 i (by omega), x1 5 i (by omega), x1 6 i (by omega), x1 7 i (by omega), x1 8 i (by omega), x1 9 i (by omega), z1 4 i (by omega) (by omega) (by omega) (by omega), z1 5 i (by omega) (by omega) (by omega) (by omega), z1 6 i (by omega) (by omega) (by omega) (by omega), z1 7 i (by omega) (by omega) (by omega) (by omega), z1 8 i (by omega) (by omega) (by omega) (by omega), z1 9 i (by omega) (by omega) (by omega) (by omega), x58 58 i (by omega) (by omega), x58 59 i (by omega) (by omega), x58 60 i (by omega) (by omega), x58 61 i (by omega) (by omega), x58 62 i (by omega) (by omega), x58 63 i (by omega) (by omega)]
      exact r4 i hi
    · rw [x1 1 14 (by omega), z11, w1.1, ← hA]
      exact BT_back r5 k3 (by omega) (fun i hi => (k14 i hi).1) x64
    · rw [x1 1 15 (by omega), z11, w1.2.1, ← hBb]
      exact BT_back r6 k4 (by omega) (fun i hi => (k14 i hi).2) x65
    · rw [x1 1 16 (by omega), z11, w1.2.2.2.2.2, x55 13 (by omega), r7]
    · rw [x1 1 17 (by omega), z11, w1.2.2.1, x14, k11]
  exact ⟨n, p, nb, W, hV2, hR2, C_t (fun c k h => y c k (by unfold tC at h; unfold tT; omega)) hC, P_t (fun c k h => y c k (by unfold tP at h; unfold tT; omega)) hP, L_t (fun c k h => y c k (by unfold tL at h; unfold tT; omega)) hL, G_t (fun c k h => y c k (by unfold tG at h; unfold tT; omega)) hG0, B_t (fun c k h => y c k (by unfold tB at h; unfold tT; omega)) hB, S_t (fun c k h => y c k (by unfold tS at h; unfold tT; omega)) (fun c k _ => by rw [y2]) hS⟩
