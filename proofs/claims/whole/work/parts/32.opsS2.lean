/-! OPERATIONS (3): shelves that change -/
theorem s1_ne {g : mG} {a k c j : Nat} {x : Int32} (h : c ≠ a) : (m_s1 g a k x).1 c j = g.1 c j := by
  rw [s1_r, if_neg h]
theorem s1_same {g : mG} {a k j : Nat} {x : Int32} (h : j ≠ k) : (m_s1 g a k x).1 a j = g.1 a j := by
  rw [s1_r, if_pos rfl, if_neg h]
theorem s1_at {g : mG} {a k : Nat} {x : Int32} : (m_s1 g a k x).1 a k = x := by
  rw [s1_r, if_pos rfl, if_pos rfl]
theorem s2_ne {g : mG} {a k c j : Nat} {x : Int64} (h : c ≠ a) : (m_s2 g a k x).2 c j = g.2 c j := by
  rw [s2_r, if_neg h]
theorem SH_c {nb s : Nat} {a b c : Int32} {el el2 : Nat → Int64} {x y : Int32} {els els2 : Nat → Int64} (h : SH nb s a b c el x y els) (h1 : ∀ i, i < 60 → el2 i = el i) (h2 : ∀ i, i < 60 → els2 (60 * s + i) = els (60 * s + i)) : SH nb s a b c el2 x y els2 := by
  rcases h with h | h | ⟨t, L, a1, a2, a3, a4, a5, a6, a7, a8, a9⟩
  · exact Or.inl h
  · exact Or.inr (Or.inl h)
  · refine Or.inr (Or.inr ⟨t, L, a1, a2, a3, a4, a5, a6, a7, fun i hi => ?_, fun e i hi => ?_⟩)
    · rw [h1 i (by omega), h2 i (by omega)]; exact a8 i hi
    · rw [h1 i (by omega)]; exact a9 e i hi
theorem S_upd {nb s : Nat} {g g2 : mG} (h : I_S nb g) (he : ∀ s', s' < 6 → s' ≠ s → (∀ k, g2.1 (43 + 2 * s') k = g.1 (43 + 2 * s') k) ∧ g2.1 90 s' = g.1 90 s' ∧ g2.1 91 s' = g.1 91 s' ∧ (∀ i, g2.2 (44 + 2 * s') i = g.2 (44 + 2 * s') i) ∧ ∀ i, i < 60 → g2.2 92 (60 * s' + i) = g.2 92 (60 * s' + i)) (hn : SH nb s (g2.1 (43 + 2 * s) 1) (g2.1 (43 + 2 * s) 2) (g2.1 (43 + 2 * s) 3) (g2.2 (44 + 2 * s)) (g2.1 90 s) (g2.1 91 s) (g2.2 92)) : I_S nb g2 := by
  intro s' hs'
  by_cases e : s' = s
  · subst e; exact hn
  · obtain ⟨h1, h2, h3, h4, h5⟩ := he s' hs' e
    rw [h1, h1, h1, h2, h3]
    exact SH_c (h s' hs') (fun i _ => h4 i) h5
theorem inv_S {n p nb : Nat} {W : mW} {g g2 : mG} (F : Fr sS g g2) (h1 : V n p g.1) (h2 : RX n p g.1 g) (h3 : I_C n p g) (h4 : I_P g) (h5 : I_L W g) (h6 : I_G n p g) (h7 : I_B nb g) (h8 : I_S nb g2) : Inv g2 := by
  have F2 := fr_SS F
  exact ⟨n, p, nb, W, V_fr F2 h1, RX_fr F2 h2, C_fr F2 h3, P_fr F2 h4, L_fr F2 h5, G_fr F2 h6, B_fr F2 h7, h8⟩
theorem o_keep : op_keep Inv 1299 := by
  intro g hI a1 a2
  have hI0 := hI
  obtain ⟨n, p, nb, W, hV, hR, hC, hP, hL, hG, hB, hS⟩ := hI
  have hB0 := hB
  obtain ⟨r, b1, b2, b3, b4, b5⟩ := hB
  rw [b_X11_keep_0, v_isShelf, mb_some, mp_some, b_X11_keep_4, mi_b2]
  by_cases h : ix 6 a1
  · obtain ⟨s, hs, e⟩ := h
    subst e
    have T : (a2 = -1 ∨ ix nb a2) → ∃ g1 g2, ev none 1299 mm_X11_keep 25 [.ref 0, .int (nI s), .int a2] [] g = some (some (.int 1), g1) ∧ ev none 1299 mm_X12_keep 22 [.ref 55, .int (nI s), .int a2] [] g1 = some (some (.int 1), g2) ∧ Inv g2 ∧ g1.1 55 59 = nI nb := by
      intro hk
      have F1 : Fr sS g (m_s1 (m_s1 (m_s1 g (43 + 2 * s) 1 a2) (43 + 2 * s) 2 (-1)) (43 + 2 * s) 3 0) := fr_s1 (fr_s1 (fr_s1 fr_refl (sS43 hs).1) (sS43 hs).1) (sS43 hs).1
      refine ⟨m_s1 (m_s1 (m_s1 g (43 + 2 * s) 1 a2) (43 + 2 * s) 2 (-1)) (43 + 2 * s) 3 0, m_s1 (m_s1 (m_s1 (m_s1 g (43 + 2 * s) 1 a2) (43 + 2 * s) 2 (-1)) (43 + 2 * s) 3 0) 90 s a2, ?_, ?_, ?_, ?_⟩
      · rw [b_X11_keep_25, mi_nI hs (by omega), pk_cl s (hx := rfl), sel6 hs, b_X11_keep_31 (isSh6 hs), b_X7_holdBody_0 (isSh6 hs), mb_some, mp_none, b_X11_keep_35]
      · rw [b_X12_keep_22, mi_nI hs (by omega), pk_cl s (hx := rfl)]
      · refine inv_S (fr_s1 F1 rfl) hV hR hC hP hL hG hB0 (S_upd (s := s) hS ?_ ?_)
        · intro s' hs' ne
          refine ⟨fun k => ?_, ?_, ?_, fun i => rfl, fun i _ => rfl⟩
          · rw [s1_ne (by omega), s1_ne (by omega), s1_ne (by omega), s1_ne (by omega)]
          · rw [s1_same ne, s1_ne (by omega), s1_ne (by omega), s1_ne (by omega)]
          · rw [s1_ne (by omega), s1_ne (by omega), s1_ne (by omega), s1_ne (by omega)]
        · have e1 : (m_s1 (m_s1 (m_s1 (m_s1 g (43 + 2 * s) 1 a2) (43 + 2 * s) 2 (-1)) (43 + 2 * s) 3 0) 90 s a2).1 (43 + 2 * s) 1 = a2 := by
            rw [s1_ne (by omega), s1_same (by omega), s1_same (by omega), s1_at]
          have e2 : (m_s1 (m_s1 (m_s1 (m_s1 g (43 + 2 * s) 1 a2) (43 + 2 * s) 2 (-1)) (43 + 2 * s) 3 0) 90 s a2).1 (43 + 2 * s) 2 = -1 := by
            rw [s1_ne (by omega), s1_same (by omega), s1_at]
          rw [e1, e2, s1_at]
          rcases hk with hk | ⟨j, hj, e⟩
          · exact Or.inl ⟨hk, rfl, hk⟩
          · exact Or.inr (Or.inl ⟨j, hj, e, rfl, e⟩)
      · rw [F1.1 55 59 rfl]; exact b4
    rw [m_if_pos (ix_nI hs)]
    by_cases h1 : a2 = -1
    · obtain ⟨g1, g2, t1, t2, t3, t4⟩ := T (Or.inl h1)
      rw [m_if_pos h1, t1]
      refine ⟨_, _, g2, rfl, ?_, t3⟩
      rw [b_X12_keep_0, v_isShelfM, mb_some, mp_some, b_X12_keep_4, mi_b2, m_if_pos (ix_nI hs), m_if_pos h1, t2]
    · rw [m_if_neg h1, v_hasBody _ _ _ nb (by omega) b3, mb_some, mp_some, b_X11_keep_20, mi_b2]
      by_cases h2 : ix nb a2
      · obtain ⟨g1, g2, t1, t2, t3, t4⟩ := T (Or.inr h2)
        rw [m_if_pos h2, t1]
        refine ⟨_, _, g2, rfl, ?_, t3⟩
        rw [b_X12_keep_0, v_isShelfM, mb_some, mp_some, b_X12_keep_4, mi_b2, m_if_pos (ix_nI hs), m_if_neg h1, v_isBody _ _ _ nb (by omega) t4, mb_some, mp_some, b_X12_keep_17, mi_b2, m_if_pos h2, t2]
      · rw [m_if_neg h2]
        refine ⟨_, _, g, rfl, ?_, hI0⟩
        rw [b_X12_keep_0, v_isShelfM, mb_some, mp_some, b_X12_keep_4, mi_b2, m_if_pos (ix_nI hs), m_if_neg h1, v_isBody _ _ _ nb (by omega) b4, mb_some, mp_some, b_X12_keep_17, mi_b2, m_if_neg h2]
  · rw [m_if_neg h]
    refine ⟨_, _, g, rfl, ?_, hI0⟩
    rw [b_X12_keep_0, v_isShelfM, mb_some, mp_some, b_X12_keep_4, mi_b2, m_if_neg h]
theorem x_zero {s : Nat} (hs : s < 6) (L : Nat) (hL : L ≤ 60) (d : Nat) (x1 x2 : Int32) : ∀ k i g, i + k = L → g.1 (43 + 2 * s) 3 = nI L → ∃ g', ev none d mm_X7_holdRow 26 [.ref (43 + 2 * s), .int x1, .int x2, .int (nI i)] [] g = some (none, g') ∧ g'.1 = g.1 ∧ ∀ c j, g'.2 c j = if c = 44 + 2 * s ∧ i ≤ j ∧ j < L then 0 else g.2 c j := by
  intro k
  induction k with
  | zero =>
    intro i g h h3
    refine ⟨g, ?_, rfl, fun c j => (if_neg (by omega)).symm⟩
    rw [b_X7_holdRow_26 (isSh6 hs), h3, m_if_neg (nI_nlt (by omega) (by omega))]
  | succ k ih =>
    intro i g h h3
    obtain ⟨g', e1, e2, e3⟩ := ih (i + 1) (m_s2 g (44 + 2 * s) i 0) (by omega) h3
    refine ⟨g', ?_, e2, ?_⟩
    · rw [b_X7_holdRow_26 (isSh6 hs), h3, m_if_pos (nI_lt (by omega) (by omega)), mi_nI (by omega) (by omega), pk_cl i (hx := rfl), nI_1]
      exact e1
    · intro c j
      rw [e3, s2_r]
      by_cases e : c = 44 + 2 * s ∧ i ≤ j ∧ j < L
      · rw [if_pos e]
        by_cases e5 : j = i
        · rw [if_neg (by omega), if_pos e.1, if_pos e5]
        · rw [if_pos (by omega)]
      · rw [if_neg e, if_neg (by omega)]
        by_cases e5 : c = 44 + 2 * s
        · rw [if_pos e5, if_neg (by omega)]
        · rw [if_neg e5]
theorem m_zero {s : Nat} (hs : s < 6) (d : Nat) (x2 x3 : Int32) : ∀ k i g, i + k = 60 → ∃ g', ev none d mm_X12_row 54 [.ref 55, .int (nI s), .int x2, .int x3, .int (nI (60 * s + i))] [] g = some (some (.int 1), g') ∧ g'.1 = g.1 ∧ ∀ c j, g'.2 c j = if c = 92 ∧ 60 * s + i ≤ j ∧ j < 60 * s + 60 then 0 else g.2 c j := by
  have ei : (60 : Int32) * nI s + 60 = nI (60 * s + 60) := by
    rw [show (60 : Int32) = nI 60 from rfl, pk_mul, nI_add]
  intro k
  induction k with
  | zero =>
    intro i g h
    refine ⟨g, ?_, rfl, fun c j => (if_neg (by omega)).symm⟩
    rw [b_X12_row_54, ei, m_if_neg (nI_nlt (by omega) (by omega))]
  | succ k ih =>
    intro i g h
    obtain ⟨g', e1, e2, e3⟩ := ih (i + 1) (m_s2 g 92 (60 * s + i) 0) (by omega)
    refine ⟨g', ?_, e2, ?_⟩
    · rw [b_X12_row_54, ei, m_if_pos (nI_lt (by omega) (by omega)), mi_nI (by omega) (by omega), pk_cl (60 * s + i) (hx := rfl), nI_1]
      exact e1
    · intro c j
      rw [e3, s2_r]
      by_cases e : c = 92 ∧ 60 * s + i ≤ j ∧ j < 60 * s + 60
      · rw [if_pos e]
        by_cases e5 : j = 60 * s + i
        · rw [if_neg (by omega), if_pos e.1, if_pos e5]
        · rw [if_pos (by omega)]
      · rw [if_neg e, if_neg (by omega)]
        by_cases e5 : c = 92
        · rw [if_pos e5, if_neg (by omega)]
        · rw [if_neg e5]
theorem fr_2 {S : Nat → Nat → Bool} {g g1 g2 : mG} (h : Fr S g g1) (h1 : g2.1 = g1.1) (h2 : ∀ c k, S c k = false → g2.2 c k = g1.2 c k) : Fr S g g2 := ⟨fun c k e => by rw [h1]; exact h.1 c k e, fun c k e => (h2 c k e).trans (h.2 c k e)⟩
theorem o_row : op_row Inv 1299 := by
  intro g hI a1 a2 a3
  have hI0 := hI
  obtain ⟨n, p, nb, W, hV, hR, hC, hP, hL, hG, hB, hS⟩ := hI
  have i5 : ix 5 a2 ↔ (¬ a2 < 0 ∧ a2 < 5) := (ix_lt (n := 5) (by omega)).symm
  have hM : ∀ g1 : mG, ev none 1299 mm_X12_row 0 [.ref 55, .int a1, .int a2, .int a3, .null] [] g1 = m_if (ix 6 a1) (m_if (ix 5 a2) (m_if (60 < a3) (some (some (.int (-1)), g1)) (m_if (a3 < 0) (some (some (.int (-14)), g1)) (m_in a1 6 (m_in a1 6 (ev none 1299 mm_X12_row 54 [.ref 55, .int a1, .int a2, .int a3, .int (60 * a1)] [] (m_s1 (m_s1 g1 90 (Int32.toNatClampNeg a1) (-2 - a2)) 91 (Int32.toNatClampNeg a1) a3)))))) (some (some (.int (-1)), g1))) (some (some (.int (-1)), g1)) := by
    intro g1
    rw [b_X12_row_0, v_isShelfM, mb_some, mp_some, b_X12_row_4, mi_b2, v_in _ _ a2 4 5 (by omega) rfl, mb_some, mp_some, b_X12_row_13, mi_b2]
  rw [b_X11_row_0, v_isShelf, mb_some, mp_some, b_X11_row_4, mi_b2]
  by_cases h : ix 6 a1
  · rw [m_if_pos h]
    by_cases h2 : ix 5 a2
    · have h3 := i5.mp h2
      rw [m_if_neg h3.1, m_if_pos h3.2]
      by_cases h4 : 60 < a3
      · rw [m_if_pos h4]
        exact ⟨_, _, g, rfl, by rw [hM, m_if_pos h, m_if_pos h2, m_if_pos h4], hI0⟩
      · rw [m_if_neg h4]
        by_cases h5 : a3 < 0
        · rw [m_if_pos h5]
          exact ⟨_, _, g, rfl, by rw [hM, m_if_pos h, m_if_pos h2, m_if_neg h4, m_if_pos h5], hI0⟩
        · obtain ⟨L, hL2, e⟩ := (ix_le (n := 60) (by omega)).mp ⟨h5, h4⟩
          obtain ⟨s, hs, e2⟩ := h
          obtain ⟨t, ht, e3⟩ := h2
          subst e; subst e2; subst e3
          have q1 : (if nI L < 60 then nI L else (60 : Int32)) = nI L := by
            by_cases c : L < 60
            · rw [if_pos (show nI L < 60 from nI_lt (b := 60) c (by omega))]
            · have : L = 60 := by omega
              subst this
              rw [if_neg (by decide)]; rfl
          have q2 : (if 0 < nI L then nI L else (0 : Int32)) = nI L := by
            by_cases c : 0 < L
            · rw [if_pos (show 0 < nI L from nI_lt (a := 0) c (by omega))]
            · have : L = 0 := by omega
              subst this
              rw [if_neg (by decide)]; rfl
          obtain ⟨g1, e1, e2, e3⟩ := x_zero hs L (by omega) 1298 (nI t) (nI L) L 0 (m_s1 (m_s1 (m_s1 g (43 + 2 * s) 1 (-1)) (43 + 2 * s) 2 (nI t)) (43 + 2 * s) 3 (nI L)) (by omega) s1_at
          obtain ⟨g2, f1, f2, f3⟩ := m_zero hs 1299 (nI t) (nI L) 60 0 (m_s1 (m_s1 g1 90 s (-2 - nI t)) 91 s (nI L)) (by omega)
          rw [m_if_neg h5, mi_nI hs (by omega), pk_cl s (hx := rfl), sel6 hs, b_X11_row_37 (isSh6 hs), b_X7_holdRow_0 (isSh6 hs), q1, b_X7_holdRow_18 (isSh6 hs), q2, b_X7_holdRow_21 (isSh6 hs)]
          have e1' : ev none 1298 mm_X7_holdRow 26 [.ref (43 + 2 * s), .int (nI t), .int (nI L), .int 0] [] (m_s1 (m_s1 (m_s1 g (43 + 2 * s) 1 (-1)) (43 + 2 * s) 2 (nI t)) (43 + 2 * s) 3 (nI L)) = some (none, g1) := e1
          rw [e1', mb_some, mp_none, b_X11_row_42]
          refine ⟨_, _, g2, rfl, ?_, ?_⟩
          · rw [hM, m_if_pos (ix_nI hs), m_if_pos (ix_nI ht), m_if_neg h4, m_if_neg h5, mi_nI hs (by omega), mi_nI hs (by omega), pk_cl s (hx := rfl)]
            have ei : (60 : Int32) * nI s = nI (60 * s + 0) := by
              rw [show (60 : Int32) = nI 60 from rfl, pk_mul]; rfl
            rw [ei]
            exact f1
          · have F1 : Fr sS g g1 := fr_2 (fr_s1 (fr_s1 (fr_s1 fr_refl (sS43 hs).1) (sS43 hs).1) (sS43 hs).1) e2 (fun c k hc => by
              rw [e3, if_neg]
              intro q
              have := (sS43 (k := k) hs).2
              rw [← q.1, hc] at this
              exact absurd this (by decide))
            have F2 : Fr sS g g2 := fr_2 (fr_s1 (fr_s1 F1 rfl) rfl) f2 (fun c k hc => by
              rw [f3, if_neg]
              intro q
              rw [q.1] at hc
              exact absurd hc (by simp [sS]))
            refine inv_S F2 hV hR hC hP hL hG hB (S_upd (s := s) hS ?_ ?_)
            · intro s' hs' ne
              refine ⟨fun k => ?_, ?_, ?_, fun i => ?_, fun i hi => ?_⟩
              · rw [f2, s1_ne (by omega), s1_ne (by omega), e2, s1_ne (by omega), s1_ne (by omega), s1_ne (by omega)]
              · rw [f2, s1_ne (by omega), s1_same ne, e2, s1_ne (by omega), s1_ne (by omega), s1_ne (by omega)]
              · rw [f2, s1_same ne, s1_ne (by omega), e2, s1_ne (by omega), s1_ne (by omega), s1_ne (by omega)]
              · rw [f3, if_neg (by omega)]
                show g1.2 _ i = _
                rw [e3, if_neg (by omega)]; rfl
              · rw [f3, if_neg (by omega)]
                show g1.2 _ _ = _
                rw [e3, if_neg (by omega)]; rfl
            · have z1 : g2.1 (43 + 2 * s) 1 = -1 := by
                rw [f2, s1_ne (by omega), s1_ne (by omega), e2, s1_same (by omega), s1_same (by omega), s1_at]
              have z2 : g2.1 (43 + 2 * s) 2 = nI t := by
                rw [f2, s1_ne (by omega), s1_ne (by omega), e2, s1_same (by omega), s1_at]
              have z3 : g2.1 (43 + 2 * s) 3 = nI L := by
                rw [f2, s1_ne (by omega), s1_ne (by omega), e2, s1_at]
              have z4 : g2.1 90 s = -2 - nI t := by
                rw [f2, s1_ne (by omega), s1_at]
              have z5 : g2.1 91 s = nI L := by
                rw [f2, s1_at]
              have z6 : ∀ i, i < L → g2.2 (44 + 2 * s) i = 0 := by
                intro i hi
                rw [f3, if_neg (by omega)]
                show g1.2 _ i = _
                rw [e3, if_pos ⟨rfl, by omega, hi⟩]
              rw [z1, z2, z3, z4, z5]
              refine Or.inr (Or.inr ⟨t, L, ht, by omega, rfl, rfl, rfl, rfl, rfl, fun i hi => ?_, fun _ i hi => ⟨0, by rw [z6 i hi]; rfl⟩⟩)
              rw [z6 i hi, f3, if_pos ⟨rfl, by omega, by omega⟩]
    · refine ⟨-1, g, g, ?_, by rw [hM, m_if_pos h, m_if_neg h2], hI0⟩
      by_cases h3 : a2 < 0
      · rw [m_if_pos h3]
      · rw [m_if_neg h3, m_if_neg (fun e => h2 (i5.mpr ⟨h3, e⟩))]
  · rw [m_if_neg h]
    exact ⟨_, _, g, rfl, by rw [hM, m_if_neg h], hI0⟩
/-- a long as a sort keeps it -/
def nv (t : Nat) (v : Int64) : Int64 := if t = 0 then Int32.toInt64 (Int8.toInt32 (Int32.toInt8 (Int64.toInt32 v))) else if t = 1 then Int32.toInt64 (Int16.toInt32 (Int32.toInt16 (Int64.toInt32 v))) else if t = 2 then Int32.toInt64 (Int64.toInt32 v) else if t = 3 then v else if lg_cmp v 0 = 0 then 0 else 1
theorem nv_byte (v : Int64) : ∃ z : Int8, nv 0 v = z.toInt64 := ⟨Int32.toInt8 (Int64.toInt32 v), by
  unfold nv
  rw [if_pos rfl]
  simp⟩
theorem lt5 {t : Nat} {P : Nat → Prop} (h : t < 5) (h0 : P 0) (h1 : P 1) (h2 : P 2) (h3 : P 3) (h4 : P 4) : P t := by
  match t, h with
  | 0, _ => exact h0
  | 1, _ => exact h1
  | 2, _ => exact h2
  | 3, _ => exact h3
  | 4, _ => exact h4
theorem v_narrowed {a e : Nat} (h0 : m_isSh a e) (d : Nat) (g : mG) (v : Int64) (t : Nat) (ht : t < 5) (h : g.1 a 2 = nI t) : ev none d mm_X7_narrowed 0 [.ref a, .long v, .null] [] g = some (some (.long (nv t v)), g) := by
  rw [b_X7_narrowed_0 h0, h]
  refine lt5 (P := fun t => m_if (nI t = 0) _ (m_if (nI t = 1) _ (m_if (nI t = 2) _ (m_if (nI t = 3) _ _))) = some (some (Value.long (nv t v)), g)) ht ?_ ?_ ?_ ?_ ?_
  · rw [m_if_pos (by decide)]; rfl
  · rw [m_if_neg (by decide), m_if_pos (by decide)]; rfl
  · rw [m_if_neg (by decide), m_if_neg (by decide), m_if_pos (by decide)]; rfl
  · rw [m_if_neg (by decide), m_if_neg (by decide), m_if_neg (by decide), m_if_pos (by decide)]; rfl
  · rw [m_if_neg (by decide), m_if_neg (by decide), m_if_neg (by decide), m_if_neg (by decide)]
    unfold nv
    rw [if_neg (by decide), if_neg (by decide), if_neg (by decide), if_neg (by decide)]
    by_cases c : lg_cmp v 0 = 0
    · rw [m_if_pos c, if_pos c]
    · rw [m_if_neg c, if_neg c]
