/-! OPERATIONS (23): by turns, what the class thinks ahead -/
theorem low_tab : ∀ q, q < 12 → ∀ r, r < 2 ^ (11 - q) → nI (2 ^ q * (2 * r + 1)) &&& (-(nI (2 ^ q * (2 * r + 1)))) = nI (2 ^ q) := by decide +kernel
theorem low_bit {U q : Nat} (hU : U < 4096) (hq : q < 12) (hb : U.testBit q = true) (hl : ∀ i, i < q → ¬ U.testBit i = true) : nI U &&& (-(nI U)) = nI (2 ^ q) := by
  have e0 : U % 2 ^ q = 0 := by
    refine Nat.eq_of_testBit_eq (fun i => ?_)
    rw [Nat.testBit_mod_two_pow, Nat.zero_testBit]
    by_cases c : i < q
    · have := hl i c
      cases z : U.testBit i with
      | false => rw [Bool.and_false]
      | true => exact absurd z this
    · rw [decide_eq_false c, Bool.false_and]
  have e1 : (U / 2 ^ q) % 2 = 1 := by
    rw [Nat.testBit_eq_decide_div_mod_eq, decide_eq_true_eq] at hb
    exact hb
  have e2 : 2 ^ q * (2 * (U / 2 ^ q / 2) + 1) = U := by
    have a := Nat.div_add_mod U (2 ^ q)
    have b : 2 * (U / 2 ^ q / 2) + 1 = U / 2 ^ q := by omega
    rw [b]
    omega
  have hr : U / 2 ^ q / 2 < 2 ^ (11 - q) := by
    rw [Nat.div_div_eq_div_mul, ← Nat.pow_succ]
    refine Nat.div_lt_of_lt_mul ?_
    rw [← Nat.pow_add, show q + 1 + (11 - q) = 12 by omega]
    exact hU
  have := low_tab q hq (U / 2 ^ q / 2) hr
  rw [e2] at this
  exact this
noncomputable def UT (p : Nat) (h : mH) (child t : Nat) : Nat := bts p (fun q => tfp h child q ∧ t ≤ cnt q (tfp h child))
theorem UT_low {p : Nat} {h : mH} {child t q : Nat} (hp : p ≤ 12) (hq : q < p) (hc : tfp h child q) (e : cnt q (tfp h child) = t) : nI (UT p h child t) &&& (-(nI (UT p h child t))) = nI (2 ^ q) := by
  refine low_bit (bts_12 hp) (by omega) ((bts_bit q).mpr ⟨hq, hc, by omega⟩) (fun i hi z => ?_)
  obtain ⟨_, z1, z2⟩ := (bts_bit i).mp z
  have a1 : cnt (i + 1) (tfp h child) = cnt i (tfp h child) + 1 := cnt_t z1
  have a2 := cnt_mono (c := tfp h child) (show i + 1 ≤ q by omega)
  omega
theorem UT_s {p : Nat} {h : mH} {child t q : Nat} (hc : tfp h child q) (e : cnt q (tfp h child) = t) : adn (UT p h child t) (2 ^ q) = UT p h child (t + 1) := by
  refine nat_ext (fun i => ?_)
  unfold UT
  rw [adn_bit, Bool.and_eq_true, Bool.not_eq_true', t_tb2, decide_eq_false_iff_not, bts_bit, bts_bit]
  constructor
  · intro ⟨⟨z1, z2, z3⟩, z4⟩
    refine ⟨z1, z2, ?_⟩
    rcases Nat.lt_trichotomy i q with w | w | w
    · have a1 : cnt (i + 1) (tfp h child) = cnt i (tfp h child) + 1 := cnt_t z2
      have a2 := cnt_mono (c := tfp h child) (show i + 1 ≤ q by omega)
      omega
    · exact absurd w.symm z4
    · have a1 : cnt (q + 1) (tfp h child) = cnt q (tfp h child) + 1 := cnt_t hc
      have a2 := cnt_mono (c := tfp h child) (show q + 1 ≤ i by omega)
      omega
  · intro ⟨z1, z2, z3⟩
    refine ⟨⟨z1, z2, by omega⟩, fun z => ?_⟩
    subst z
    omega
theorem x_thinkTurns {W : mW} {n p : Nat} {h : mH} {g : mG} (hX : XR W n p h g) (d : Nat) (man child goal : Nat) (hc : child < n) (h6 : g.1 19 6 = nI goal) : Ok (ev none (d + 5) mm_X10_thinkOfTurns 0 [.ref 19, .int (nI man), .int (nI child), .null, .null, .null, .null] [] g) (fun r g2 => r = none ∧ TB W p h man child goal g2 ∧ Fr sA g g2) := by
  have hp : p ≤ 12 := hX.1.2.1
  have hn : n ≤ 6 := hX.1.1
  obtain ⟨F, f1, f2, f3⟩ := hX.2.1.2.2.2.2.1
  rw [b_X10_thinkOfTurns_0]
  refine ok_loop (E := fun k (a : Nat) g => ev none (d + 5) mm_X10_thinkOfTurns 5 [.ref 19, .int (nI man), .int (nI child), .int (nI a), .int (nI k), .null, .null] [] g) (I := fun k a g3 => a = bts k (tfp h child) ∧ g3 = g) (P := p) ?_ ?_ 0 0 g (by omega) ⟨rfl, rfl⟩
  · intro k a g3 hk ⟨ha, hg⟩ next
    subst hg
    show Ok (ev none (d + 5) mm_X10_thinkOfTurns 5 [.ref 19, .int (nI man), .int (nI child), .int (nI a), .int (nI k), .null, .null] [] g3) _
    rw [b_X10_thinkOfTurns_5, hX.2.1.2.1, m_if_pos (nI_lt hk (by omega)), mi_nI (by omega) (by omega), pk_cl k (hx := rfl), (hX.2.1.2.2.2.1 k (by omega)).2.1]
    refine ok_if (fun c => ?_) (fun c => ?_)
    · rw [f2, v_hasBit _ _ _ _ (by omega) (by omega), mb_some, mp_some, b_X10_thinkOfTurns_43, mi_b2]
      have fk := f3 k (by omega)
      refine ok_if (fun z => ?_) (fun z => ?_)
      · rw [b_X10_thinkOfTurns_53, nI_1]
        refine next a g3 ⟨by rw [bts_f, ha]; intro y; have := y.2; rw [fk, b2_t z] at this; exact absurd this (by decide), rfl⟩
      · rw [t_or1 (by omega), b_X10_thinkOfTurns_53, nI_1]
        exact next _ g3 ⟨by rw [bts_t (show tfp h child k from ⟨c, by rw [fk, b2_f z]⟩), ha], rfl⟩
    · rw [b_X10_thinkOfTurns_53, nI_1]
      exact next a g3 ⟨by rw [bts_f (fun y => c y.1), ha], rfl⟩
  · intro a g3 ⟨ha, hg⟩
    subst hg
    have hU0 : a = UT p h child 0 := by rw [ha]; exact bts_c (fun q _ => ⟨fun z => ⟨z, Nat.zero_le _⟩, fun z => z.1⟩)
    have ha12 : a < 4096 := by rw [ha]; exact bts_12 hp
    have hpop : pop a = cnt p (tfp h child) := by rw [ha]; exact pop_bts (by omega)
    have hN12 : cnt p (tfp h child) ≤ p := cnt_le
    show Ok (ev none (d + 5) mm_X10_thinkOfTurns 5 [.ref 19, .int (nI man), .int (nI child), .int (nI a), .int (nI p), .null, .null] [] g3) _
    rw [b_X10_thinkOfTurns_5, hX.2.1.2.1, m_if_neg (nI_nlt (Nat.le_refl _) (by omega)), v_bitCount _ _ _ ha12, mb_some, mp_some, b_X10_thinkOfTurns_65, hpop, show (2 : Int32) = nI 2 from rfl, mn_i (by omega) (by omega), b_X10_thinkOfTurns_68]
    generalize hM : (if cnt p (tfp h child) < 2 then cnt p (tfp h child) else 2) = M
    have hM2 : M ≤ 2 ∧ M ≤ cnt p (tfp h child) ∧ ∀ t, t ≤ 2 → t ≤ cnt p (tfp h child) → t ≤ M := by
      rw [← hM]
      refine ⟨?_, ?_, fun t h1 h2 => ?_⟩ <;> split <;> omega
    have F7 : Fr sA g3 (m_s1 g3 19 7 (nI M)) := fr_s1 fr_refl rfl
    obtain ⟨g4, e4, F4, hM4, hR4⟩ := x_now (XR_fr F7 hX) (d + 4)
    obtain ⟨hV, hXT, hLX, o1, o2, o3, o4⟩ := hM4
    have F4' := fr_trans F7 (fr_2A F4)
    rw [e4, mb_some, mp_some, b_X10_thinkOfTurns_78, hU0]
    refine ok_loop (E := fun t (a : Int32 × Value) g => ev none (d + 5) mm_X10_thinkOfTurns 83 [.ref 19, .int (nI man), .int (nI child), .int a.1, .ref 15, .int (nI t), a.2] [] g) (I := fun t a g5 => (t ≤ M → a.1 = nI (UT p h child t) ∧ BT (g5.1 15 2) (FT p h child t)) ∧ BT (g5.1 15 1) (h 65) ∧ g5.1 15 3 = 0 ∧ g5.1 19 6 = nI goal ∧ g5.1 19 7 = nI M ∧ Fr sA g4 g5 ∧ ∀ t' dd, t' < t → t' ≤ dd → dd < 3 → g5.1 20 (3 * t' + dd) = nI (gpl W p (rep h 64 (FT p h child t')) (nI man) (dy (h 55 14) (nI dd)))) (P := M + 1) ?_ ?_ 0 (_, .null) g4 (by omega) ⟨fun _ => ⟨rfl, by rw [FT_0]; exact o3⟩, o2, o4, by rw [F4.1 19 6 rfl, s1_same (by decide)]; exact h6, by rw [F4.1 19 7 rfl, s1_at], fr_refl, fun t' dd z => by omega⟩
    · intro t ⟨x3, v6⟩ g5 ht ⟨i1, i2, i3, i4, i5, i6, i7⟩ next
      obtain ⟨i1a, i1b⟩ := i1 (by omega)
      dsimp only at i1a
      subst i1a
      show Ok (ev none (d + 5) mm_X10_thinkOfTurns 83 [.ref 19, .int (nI man), .int (nI child), .int (nI (UT p h child t)), .ref 15, .int (nI t), v6] [] g5) _
      rw [b_X10_thinkOfTurns_83, i5, m_if_neg (nI_nlt (by omega) (by omega))]
      refine ok_loop (E := fun k (_ : Unit) g => ev none (d + 5) mm_X10_thinkOfTurns 96 [.ref 19, .int (nI man), .int (nI child), .int (nI (UT p h child t)), .ref 15, .int (nI t), .int (nI k)] [] g) (I := fun k _ g6 => BT (g6.1 15 2) (FT p h child t) ∧ BT (g6.1 15 1) (h 65) ∧ g6.1 15 3 = 0 ∧ g6.1 19 6 = nI goal ∧ g6.1 19 7 = nI M ∧ Fr sA g4 g6 ∧ ∀ t' dd, (t' < t ∨ (t' = t ∧ dd < k)) → t' ≤ dd → dd < 3 → g6.1 20 (3 * t' + dd) = nI (gpl W p (rep h 64 (FT p h child t')) (nI man) (dy (h 55 14) (nI dd)))) (P := 3) ?_ ?_ t () g5 (by omega) ⟨i1b, i2, i3, i4, i5, i6, fun t' dd z z1 z2 => i7 t' dd (by omega) z1 z2⟩
      · intro k _ g6 hk ⟨j1, j2, j3, j4, j5, j6, j7⟩ next2
        have hT6 := XT_fr j6 hXT
        have e17 : g6.1 1 17 = h 55 14 := (j6.1 1 17 rfl).trans hR4.2.1.2.2.2.2.2.2.2
        show Ok (ev none (d + 5) mm_X10_thinkOfTurns 96 [.ref 19, .int (nI man), .int (nI child), .int (nI (UT p h child t)), .ref 15, .int (nI t), .int (nI k)] [] g6) _
        rw [b_X10_thinkOfTurns_96, show (3 : Int32) = nI 3 from rfl, m_if_pos (nI_lt hk (by omega)), e17, v_dayBehind, mb_some, mp_some, b_X10_thinkOfTurns_116]
        have F6 : Fr sA g4 (m_s1 g6 15 0 (dy (h 55 14) (nI k))) := fr_s1 j6 rfl
        have hX6 : XM W n p (rep h 64 (FT p h child t)) (dy (h 55 14) (nI k)) (m_s1 g6 15 0 (dy (h 55 14) (nI k))) := ⟨V_64 (h := h) (F := h 64) (by rw [rep_id]; exact hV) (FT_ix hV child t) (FT_z hV child t), XT_fr F6 hXT, LX_fr F6 hLX, s1_at, by rw [s1_same (by decide)]; exact j2, by rw [s1_same (by decide)]; exact j1, (s1_same (by decide)).trans j3⟩
        refine ok_bnd (x_gripPlaces hX6 (dy_ix hV.2.2.2.2.2.2.2.2.2 (by omega)) d (nI man)) ?_
        intro r g7 ⟨hr, F7⟩
        subst hr
        rw [mp_some, b_X10_thinkOfTurns_140, show (3 : Int32) * nI t + nI k = nI (3 * t + k) by rw [show (3 : Int32) = nI 3 from rfl, pk_mul, nI_add], mi_nI (by omega) (by omega), pk_cl (3 * t + k) (hx := rfl), nI_1]
        refine next2 () _ ⟨by rw [s1_ne (by omega), F7.1 15 2 rfl, s1_same (by decide)]; exact j1, by rw [s1_ne (by omega), F7.1 15 1 rfl, s1_same (by decide)]; exact j2, by rw [s1_ne (by omega), F7.1 15 3 rfl, s1_same (by decide)]; exact j3, by rw [s1_ne (by omega), F7.1 19 6 rfl, s1_ne (by omega)]; exact j4, by rw [s1_ne (by omega), F7.1 19 7 rfl, s1_ne (by omega)]; exact j5, fr_s1 (fr_trans F6 (fr_1A F7)) rfl, fun t' dd z z1 z2 => ?_⟩
        by_cases e : t' = t ∧ dd = k
        · rw [e.1, e.2, s1_at]
        · rw [s1_same (by omega), F7.1 20 _ rfl, s1_ne (by omega)]
          exact j7 t' dd (by omega) z1 z2
      · intro _ g6 ⟨j1, j2, j3, j4, j5, j6, j7⟩
        show Ok (ev none (d + 5) mm_X10_thinkOfTurns 96 [.ref 19, .int (nI man), .int (nI child), .int (nI (UT p h child t)), .ref 15, .int (nI t), .int 3] [] g6) _
        rw [b_X10_thinkOfTurns_96, m_if_neg (by decide), b_J6_lowestOneBit_0f7a4_0, mb_some, mp_some, b_X10_thinkOfTurns_151, nI_1]
        refine next (_, _) _ ⟨fun hle => ?_, by rw [s1_same (by decide)]; exact j2, (s1_same (by decide)).trans j3, (s1_ne (by omega)).trans j4, (s1_ne (by omega)).trans j5, fr_s1 j6 rfl, fun t' dd z z1 z2 => by rw [s1_ne (by omega)]; exact j7 t' dd (by omega) z1 z2⟩
        obtain ⟨q, q1, q2, q3⟩ := cnt_sur p t (show t < cnt p (tfp h child) by omega)
        rw [UT_low hp q1 q2 q3, t_not, UT_s q2 q3, s1_at]
        refine ⟨rfl, ?_⟩
        rw [← t_sh1 q (by omega)]
        refine BT_c (BT_set j1 (by omega)) (fun i _ => ?_)
        exact FT_s q1 q2 q3 i
    · intro ⟨x3, v6⟩ g5 ⟨i1, i2, i3, i4, i5, i6, i7⟩
      show Ok (ev none (d + 5) mm_X10_thinkOfTurns 83 [.ref 19, .int (nI man), .int (nI child), .int x3, .ref 15, .int (nI (M + 1)), v6] [] g5) _
      rw [b_X10_thinkOfTurns_83, i5, m_if_pos (nI_lt (by omega) (by omega))]
      refine ok_some ⟨rfl, ⟨i4, by rw [i5, hM], fun t dd h1 h2 h3 => i7 t dd ?_ h2 h3⟩, fr_trans F4' i6⟩
      have := hM2.2.2 t (by omega) h1
      omega
