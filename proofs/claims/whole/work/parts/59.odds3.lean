/-! OPERATIONS (19): odds, in lowest terms -/
theorem prj_0 {f : Nat → Nat} : ∀ j k, (∃ q, k ≤ q ∧ q < k + j ∧ f q = 0) → prj f j k = 0 := by
  intro j
  induction j with
  | zero => intro k ⟨q, a, b, _⟩; omega
  | succ j ih =>
    intro k ⟨q, a, b, e⟩
    show f k * prj f j (k + 1) = 0
    by_cases c : q = k
    · subst c; rw [e, Nat.zero_mul]
    · rw [ih (k + 1) ⟨q, by omega, by omega, e⟩, Nat.mul_zero]
theorem prj_2 {W : mW} {p : Nat} {h : mH} {one : Nat} : ∀ j k, (∀ q, k ≤ q → q < k + j → (TT p h one).testBit q = true → av W p h one q ≠ 0) → ∃ e c, prj (fP W p h one) j k = 2 ^ e ∧ prj (fA p h one) j k = 2 ^ c ∧ c ≤ j ∧ e + cnt (k + j) (c1 W p h one) = c + cnt k (c1 W p h one) := by
  intro j
  induction j with
  | zero => intro k _; exact ⟨0, 0, rfl, rfl, Nat.le_refl _, rfl⟩
  | succ j ih =>
    intro k hn
    obtain ⟨e, c, q1, q2, q3, q4⟩ := ih (k + 1) (fun q a b => hn q (by omega) (by omega))
    rw [show k + 1 + j = k + (j + 1) by omega] at q4
    have u1 : prj (fP W p h one) (j + 1) k = fP W p h one k * 2 ^ e := by rw [← q1]; rfl
    have u2 : prj (fA p h one) (j + 1) k = fA p h one k * 2 ^ c := by rw [← q2]; rfl
    rw [u1, u2]
    by_cases b : (TT p h one).testBit k = true
    · have ha := hn k (by omega) (by omega) b
      have f2 : fA p h one k = 2 := if_pos b
      have f1 : fP W p h one k = av W p h one k := if_pos b
      have hle : av W p h one k ≤ 2 := by
        unfold av
        split <;> split <;> omega
      rw [f1, f2]
      by_cases z : av W p h one k = 1
      · rw [cnt_t (show c1 W p h one k from ⟨b, z⟩)] at q4
        exact ⟨e, c + 1, by rw [z, Nat.one_mul], by rw [Nat.pow_succ]; omega, by omega, by omega⟩
      · rw [cnt_f (fun y : c1 W p h one k => z y.2)] at q4
        exact ⟨e + 1, c + 1, by rw [show av W p h one k = 2 by omega, Nat.pow_succ]; omega, by rw [Nat.pow_succ]; omega, by omega, by omega⟩
    · have f2 : fA p h one k = 1 := if_neg b
      have f1 : fP W p h one k = 1 := if_neg b
      rw [cnt_f (fun y : c1 W p h one k => b y.1)] at q4
      rw [f1, f2]
      exact ⟨e, c, by rw [Nat.one_mul], by rw [Nat.one_mul], by omega, q4⟩
theorem v_lowest0 (d : Nat) (g : mG) (a : Int64) (x4 : Int32) : ev none d mm_X12_lowest 0 [.long 0, .null, .long a, .null, .int x4, .null, .null, .null, .null, .null, .null] [] g = some (some (.long (Int32.toInt64 x4)), g) := by
  rw [b_X12_lowest_0, m_if_pos (by decide)]
theorem v_lowest (d : Nat) (g : mG) (e c : Nat) (x4 : Int32) (hec : e ≤ c) (hc : c < 13) : ev none d mm_X12_lowest 0 [.long (lO (2 ^ e)), .null, .long (lO (2 ^ c)), .null, .int x4, .null, .null, .null, .null, .null, .null] [] g = some (some (.long (if x4 = 0 then 1 else lO (2 ^ (c - e)))), g) := by
  have z0 : lg_cmp 0 0 = 0 := by decide
  have e1 : lO (2 ^ (e - e)) = 1 := by rw [Nat.sub_self]; decide
  rw [b_X12_lowest_0, m_if_neg (lO_c0 e (by omega)).1, b_X12_lowest_16, m_if_neg (lO_c0 c hc).1, if_neg (lO_c0 c hc).2]
  have fin : ∀ (x5 : Int64) (v9 : Value), x5 = lO (2 ^ e) → ev none d mm_X12_lowest 16 [.long (lO (2 ^ e)), .null, .long (lO (2 ^ c)), .null, .int x4, .long x5, .null, .long 0, .null, v9, .null] [] g = some (some (.long (if x4 = 0 then 1 else lO (2 ^ (c - e)))), g) := by
    intro x5 v9 h5
    rw [b_X12_lowest_16, m_if_pos z0, h5]
    by_cases z : x4 = 0
    · rw [m_if_pos z, if_neg (lO_c0 e (by omega)).2, lO_d e (by omega) e (by omega) (Nat.le_refl _), e1, if_pos z]
    · rw [m_if_neg z, if_neg (lO_c0 e (by omega)).2, lO_d c hc e (by omega) hec, if_neg z]
  by_cases z : e < c
  · rw [lO_m1 e (by omega) c hc z, b_X12_lowest_16, m_if_neg (lO_c0 e (by omega)).1, if_neg (lO_c0 e (by omega)).2, lO_m0 c hc e (by omega) hec]
    exact fin _ _ rfl
  · have : e = c := by omega
    subst this
    rw [lO_m0 e hc e hc (Nat.le_refl _)]
    exact fin _ _ rfl
theorem rep_id {h : mH} {c : Nat} : rep h c (h c) = h := funext fun a => funext fun k => by
  unfold rep
  by_cases e : a = c
  · rw [if_pos e, e]
  · rw [if_neg e]
theorem m_odds {W : mW} {n p : Nat} {h : mH} {g : mG} (hM : MC W n p h g) (d : Nat) (one : Nat) (x2 : Int32) (h1 : one < n) (h2 : ix 2 x2) : Ok (ev none (d + 21) mm_X12_odds 38 [.ref 55, .int (nI one), .int x2] [.int (nI (TT p h one)), .int (nI one), .ref 55] (m_s2 (m_s2 g 55 45 0) 55 46 0)) (fun r g2 => r = some (.long (oAns W p h one x2)) ∧ Fr sA g g2) := by
  have hp := hM.1.2.1
  have F0 : Fr sA g (m_s2 (m_s2 g 55 45 0) 55 46 0) := fr_s2 (fr_s2 fr_refl rfl) rfl
  have e64 : (m_s2 (m_s2 g 55 45 0) 55 46 0).1 64 = h 64 := funext fun k => (hM.2.1.2.2.2.2 k).2.2.2.2.2.2.2.2.1
  have hM0 : MC W n p (rep h 64 ((m_s2 (m_s2 g 55 45 0) 55 46 0).1 64)) (m_s2 (m_s2 g 55 45 0) 55 46 0) := by
    rw [e64, rep_id]
    exact MC_fr F0 hM
  rw [b_X12_odds_38]
  obtain ⟨d', e'⟩ : ∃ d', d + 20 = d' + p + 7 := ⟨d + 13 - p, by omega⟩
  have q := m_forgot (W := W) hM.1 h1 p 0 (m_s2 (m_s2 g 55 45 0) 55 46 0) d' (by omega) hM0
  rw [← e'] at q
  refine ok_bnd q ?_
  intro r g2 ⟨hr, F2, e46, e45⟩
  subst hr
  have F := fr_trans F0 (fr_O F2)
  have w0 : wy W p h one p 0 ((m_s2 (m_s2 g 55 45 0) 55 46 0).1 64) = prj (fP W p h one) p 0 := if_pos (fun q hq => by omega)
  have e46' : g2.2 55 46 = lO (prj (fA p h one) p 0) := by
    rw [e46, s2_r, if_pos rfl, if_pos rfl]
    exact Int64.zero_add _
  have e45' : g2.2 55 45 = lO (prj (fP W p h one) p 0) := by
    rw [e45, w0, s2_r, if_pos rfl, if_neg (by decide), s2_r, if_pos rfl, if_pos rfl]
    exact Int64.zero_add _
  rw [mp_none, b_X12_odds_42, e45', e46']
  by_cases c : bad W p h one
  · obtain ⟨q, z1, z2, z3⟩ := c
    rw [prj_0 (f := fP W p h one) p 0 ⟨q, by omega, by omega, (if_pos z2).trans z3⟩, show lO 0 = 0 from rfl, v_lowest0, mb_some, mp_some, b_X12_odds_54]
    refine ok_some ⟨?_, F⟩
    unfold oAns
    rw [if_pos ⟨q, z1, z2, z3⟩]
    rcases ix_2.mpr h2 with e | e
    · subst e; rfl
    · subst e; rfl
  · obtain ⟨e, cc, q1, q2, q3, q4⟩ := prj_2 (W := W) (p := p) (h := h) (one := one) p 0 (fun q _ b z y => c ⟨q, by omega, z, y⟩)
    rw [Nat.zero_add, show cnt 0 (c1 W p h one) = 0 from rfl] at q4
    rw [q1, q2, v_lowest _ _ e cc x2 (by omega) (by omega), mb_some, mp_some, b_X12_odds_54]
    refine ok_some ⟨?_, F⟩
    unfold oAns
    rw [if_neg c, show cc - e = cnt p (c1 W p h one) by omega]
theorem o_odds : op_odds Inv 1299 := by
  intro g hI a1 a2
  obtain ⟨n, p, W, hX, hM⟩ := inv_C hI
  have hn : n ≤ 6 := hX.1.1
  by_cases h0 : ix n a1
  · by_cases h1 : ix 2 a2
    · obtain ⟨one, ho, e⟩ := h0
      subst e
      obtain ⟨r, g1, e1, hr, F1⟩ := x_chance hX 1294 one a2 ho
      subst hr
      have hM1 := MC_fr F1 hM
      obtain ⟨r2, g2, e2, hr2, F2⟩ := m_odds hM1 1278 one a2 ho h1
      subst hr2
      have e1' : ev none 1298 mm_X5_chance 0 [.ref 23, .int (nI one), .int a2, .null, .null, .null, .null, .null, .null, .null, .null] [] g = some (some (.long (oAns W p g.1 one a2)), g1) := e1
      have e2' : ev none 1299 mm_X12_odds 38 [.ref 55, .int (nI one), .int a2] [.int (nI (TT p g.1 one)), .int (nI one), .ref 55] (m_s2 (m_s2 g1 55 45 0) 55 46 0) = some (some (.long (oAns W p g.1 one a2)), g2) := e2
      refine ⟨oAns W p g.1 one a2, g1, g2, ?_, ?_, inv_fr F2 (inv_fr F1 hI)⟩
      · rw [b_X11_odds_0, v_hasPerson _ g _ n (by omega) hX.2.1.1, mb_some, mp_some, b_X11_odds_8, mi_b2, m_if_pos (ix_nI ho), v_isBit, mb_some, mp_some, b_X11_odds_15, mi_b2, m_if_pos h1, e1', mb_some, mp_some, b_X11_odds_31]
      · have hM1' : MC W n p g.1 (m_s2 (m_s2 g1 55 45 0) 55 46 0) := MC_fr (fr_s2 (fr_s2 fr_refl rfl) rfl) hM1
        rw [b_X12_odds_0, v_isOne _ _ _ n (by omega) (MC_n hM1), mb_some, mp_some, b_X12_odds_5, mi_b2, m_if_pos (ix_nI ho), v_in _ _ a2 1 2 (by omega) rfl, mb_some, mp_some, b_X12_odds_14, mi_b2, m_if_pos h1, m_here hM1' _ one ho, mb_some, mp_some, e2']
    · refine ⟨-9223372036854775808, g, g, ?_, ?_, hI⟩
      · rw [b_X11_odds_0, v_hasPerson _ g _ n (by omega) hX.2.1.1, mb_some, mp_some, b_X11_odds_8, mi_b2, m_if_pos h0, v_isBit, mb_some, mp_some, b_X11_odds_15, mi_b2, m_if_neg h1]
      · rw [b_X12_odds_0, v_isOne _ _ _ n (by omega) (MC_n hM), mb_some, mp_some, b_X12_odds_5, mi_b2, m_if_pos h0, v_in _ _ a2 1 2 (by omega) rfl, mb_some, mp_some, b_X12_odds_14, mi_b2, m_if_neg h1]
  · refine ⟨-9223372036854775808, g, g, ?_, ?_, hI⟩
    · rw [b_X11_odds_0, v_hasPerson _ g _ n (by omega) hX.2.1.1, mb_some, mp_some, b_X11_odds_8, mi_b2, m_if_neg h0]
    · rw [b_X12_odds_0, v_isOne _ _ _ n (by omega) (MC_n hM), mb_some, mp_some, b_X12_odds_5, mi_b2, m_if_neg h0]
