/-! OPERATIONS (7b): the log of changes -/
theorem x_lose (d : Nat) : ∀ k i g, i + k = 40 → 1 ≤ i → ∃ g', ev none d mm_X1_loseOldest 2 [.ref 30, .int (nI i)] [] g = some (none, g') ∧ g'.2 = g.2 ∧ ∀ c m, g'.1 c m = if 31 ≤ c ∧ c ≤ 34 ∧ i - 1 ≤ m ∧ m < 39 then g.1 c (m + 1) else if c = 30 ∧ m = 5 then 39 else g.1 c m := by
  intro k
  induction k with
  | zero =>
    intro i g h h1
    refine ⟨m_s1 g 30 5 39, ?_, rfl, ?_⟩
    · rw [b_X1_loseOldest_2, m_if_neg (show ¬ nI i < 40 from nI_nlt (b := 40) (by omega) (by omega))]
    · intro c m
      rw [s1_r, if_neg (show ¬ (31 ≤ c ∧ c ≤ 34 ∧ i - 1 ≤ m ∧ m < 39) by omega)]
      by_cases q : c = 30
      · rw [if_pos q]
        by_cases q2 : m = 5
        · rw [if_pos q2, if_pos ⟨q, q2⟩]
        · rw [if_neg q2, if_neg (fun z => q2 z.2)]
      · rw [if_neg q, if_neg (fun z => q z.1)]
  | succ k ih =>
    intro i g h h1
    have ep : nI i - 1 = nI (i - 1) := pk_sub (a := i) (b := 1) h1
    have W4 : ∀ c m, (m_s1 (m_s1 (m_s1 (m_s1 g 31 (i - 1) (g.1 31 i)) 32 (i - 1) (g.1 32 i)) 33 (i - 1) (g.1 33 i)) 34 (i - 1) (g.1 34 i)).1 c m = if 31 ≤ c ∧ c ≤ 34 ∧ m = i - 1 then g.1 c i else g.1 c m := by
      intro c m
      rcases (show c = 31 ∨ c = 32 ∨ c = 33 ∨ c = 34 ∨ (c ≠ 31 ∧ c ≠ 32 ∧ c ≠ 33 ∧ c ≠ 34) by omega) with e | e | e | e | e
      · subst e
        rw [s1_ne (by decide), s1_ne (by decide), s1_ne (by decide), s1_r, if_pos rfl]
        by_cases q : m = i - 1
        · rw [if_pos q, if_pos ⟨by omega, by omega, q⟩]
        · rw [if_neg q, if_neg (fun z => q z.2.2)]
      · subst e
        rw [s1_ne (by decide), s1_ne (by decide), s1_r, if_pos rfl]
        by_cases q : m = i - 1
        · rw [if_pos q, if_pos ⟨by omega, by omega, q⟩]
        · rw [if_neg q, if_neg (fun z => q z.2.2), s1_ne (by decide)]
      · subst e
        rw [s1_ne (by decide), s1_r, if_pos rfl]
        by_cases q : m = i - 1
        · rw [if_pos q, if_pos ⟨by omega, by omega, q⟩]
        · rw [if_neg q, if_neg (fun z => q z.2.2), s1_ne (by decide), s1_ne (by decide)]
      · subst e
        rw [s1_r, if_pos rfl]
        by_cases q : m = i - 1
        · rw [if_pos q, if_pos ⟨by omega, by omega, q⟩]
        · rw [if_neg q, if_neg (fun z => q z.2.2), s1_ne (by decide), s1_ne (by decide), s1_ne (by decide)]
      · rw [s1_ne e.2.2.2, s1_ne e.2.2.1, s1_ne e.2.1, s1_ne e.1, if_neg (by omega)]
    obtain ⟨g', e1, e2, e3⟩ := ih (i + 1) (m_s1 (m_s1 (m_s1 (m_s1 g 31 (i - 1) (g.1 31 i)) 32 (i - 1) (g.1 32 i)) 33 (i - 1) (g.1 33 i)) 34 (i - 1) (g.1 34 i)) (by omega) (by omega)
    refine ⟨g', ?_, e2, ?_⟩
    · have j1 : ∀ x : Option (Option Value × mG), m_in (nI i) 40 x = x := fun x => mi_nI (by omega) (by omega)
      have j2 : ∀ x : Option (Option Value × mG), m_in (nI (i - 1)) 40 x = x := fun x => mi_nI (by omega) (by omega)
      rw [b_X1_loseOldest_2, m_if_pos (show nI i < 40 from nI_lt (b := 40) (by omega) (by omega)), ep]
      simp only [j1, j2]
      rw [pk_cl i (hx := rfl), pk_cl (i - 1) (hx := rfl), nI_1]
      exact e1
    · intro c m
      rw [e3]
      by_cases q : 31 ≤ c ∧ c ≤ 34 ∧ i - 1 ≤ m ∧ m < 39
      · rw [if_pos q]
        by_cases q2 : m = i - 1
        · rw [if_neg (by omega), if_neg (by omega), W4, if_pos ⟨q.1, q.2.1, q2⟩, q2, show i - 1 + 1 = i by omega]
        · rw [if_pos (by omega), W4, if_neg (by omega)]
      · rw [if_neg q, if_neg (by omega), W4, if_neg (show ¬ (31 ≤ c ∧ c ≤ 34 ∧ m = i - 1) by omega)]
theorem m_lose (d : Nat) (x1 x2 x3 x4 : Int32) : ∀ k i g, i + k = 40 → 1 ≤ i → ∃ g', ev none d mm_X12_changes 34 [.ref 55, .int x1, .int x2, .int x3, .int x4, .int (nI i)] [] g = ev none d mm_X12_changes 121 [.ref 55, .int x1, .int x2, .int x3, .int x4, .int (nI 40)] [] g' ∧ g'.2 = g.2 ∧ ∀ c m, g'.1 c m = if 67 ≤ c ∧ c ≤ 70 ∧ i - 1 ≤ m ∧ m < 39 then g.1 c (m + 1) else if c = 55 ∧ m = 16 then g.1 55 16 - 1 else g.1 c m := by
  intro k
  induction k with
  | zero =>
    intro i g h h1
    have : i = 40 := by omega
    subst this
    refine ⟨m_s1 g 55 16 (g.1 55 16 - 1), ?_, rfl, ?_⟩
    · rw [b_X12_changes_34, m_if_neg (show ¬ nI 40 < 40 by decide)]
    · intro c m
      rw [s1_r, if_neg (show ¬ (67 ≤ c ∧ c ≤ 70 ∧ 40 - 1 ≤ m ∧ m < 39) by omega)]
      by_cases q : c = 55
      · rw [if_pos q]
        by_cases q2 : m = 16
        · rw [if_pos q2, if_pos ⟨q, q2⟩]
        · rw [if_neg q2, if_neg (fun z => q2 z.2)]
      · rw [if_neg q, if_neg (fun z => q z.1)]
  | succ k ih =>
    intro i g h h1
    have ep : nI i - 1 = nI (i - 1) := pk_sub (a := i) (b := 1) h1
    have W4 : ∀ c m, (m_s1 (m_s1 (m_s1 (m_s1 g 67 (i - 1) (g.1 67 i)) 68 (i - 1) (g.1 68 i)) 69 (i - 1) (g.1 69 i)) 70 (i - 1) (g.1 70 i)).1 c m = if 67 ≤ c ∧ c ≤ 70 ∧ m = i - 1 then g.1 c i else g.1 c m := by
      intro c m
      rcases (show c = 67 ∨ c = 68 ∨ c = 69 ∨ c = 70 ∨ (c ≠ 67 ∧ c ≠ 68 ∧ c ≠ 69 ∧ c ≠ 70) by omega) with e | e | e | e | e
      · subst e
        rw [s1_ne (by decide), s1_ne (by decide), s1_ne (by decide), s1_r, if_pos rfl]
        by_cases q : m = i - 1
        · rw [if_pos q, if_pos ⟨by omega, by omega, q⟩]
        · rw [if_neg q, if_neg (fun z => q z.2.2)]
      · subst e
        rw [s1_ne (by decide), s1_ne (by decide), s1_r, if_pos rfl]
        by_cases q : m = i - 1
        · rw [if_pos q, if_pos ⟨by omega, by omega, q⟩]
        · rw [if_neg q, if_neg (fun z => q z.2.2), s1_ne (by decide)]
      · subst e
        rw [s1_ne (by decide), s1_r, if_pos rfl]
        by_cases q : m = i - 1
        · rw [if_pos q, if_pos ⟨by omega, by omega, q⟩]
        · rw [if_neg q, if_neg (fun z => q z.2.2), s1_ne (by decide), s1_ne (by decide)]
      · subst e
        rw [s1_r, if_pos rfl]
        by_cases q : m = i - 1
        · rw [if_pos q, if_pos ⟨by omega, by omega, q⟩]
        · rw [if_neg q, if_neg (fun z => q z.2.2), s1_ne (by decide), s1_ne (by decide), s1_ne (by decide)]
      · rw [s1_ne e.2.2.2, s1_ne e.2.2.1, s1_ne e.2.1, s1_ne e.1, if_neg (by omega)]
    obtain ⟨g', e1, e2, e3⟩ := ih (i + 1) (m_s1 (m_s1 (m_s1 (m_s1 g 67 (i - 1) (g.1 67 i)) 68 (i - 1) (g.1 68 i)) 69 (i - 1) (g.1 69 i)) 70 (i - 1) (g.1 70 i)) (by omega) (by omega)
    refine ⟨g', ?_, e2, ?_⟩
    · have j1 : ∀ x : Option (Option Value × mG), m_in (nI i) 40 x = x := fun x => mi_nI (by omega) (by omega)
      have j2 : ∀ x : Option (Option Value × mG), m_in (nI (i - 1)) 40 x = x := fun x => mi_nI (by omega) (by omega)
      rw [b_X12_changes_34, m_if_pos (show nI i < 40 from nI_lt (b := 40) (by omega) (by omega)), ep]
      simp only [j1, j2]
      rw [pk_cl i (hx := rfl), pk_cl (i - 1) (hx := rfl), nI_1]
      exact e1
    · intro c m
      rw [e3]
      by_cases q : 67 ≤ c ∧ c ≤ 70 ∧ i - 1 ≤ m ∧ m < 39
      · rw [if_pos q]
        by_cases q2 : m = i - 1
        · rw [if_neg (by omega), if_neg (by omega), W4, if_pos ⟨q.1, q.2.1, q2⟩, q2, show i - 1 + 1 = i by omega]
        · rw [if_pos (by omega), W4, if_neg (by omega)]
      · rw [if_neg q, if_neg (by omega), W4, W4, if_neg (show ¬ (67 ≤ c ∧ c ≤ 70 ∧ m = i - 1) by omega), if_neg (show ¬ (67 ≤ 55 ∧ 55 ≤ 70 ∧ 16 = i - 1) by omega)]
def lsh (dn : Nat) : Nat := if dn < 40 then 0 else 1
def lm (dn : Nat) : Nat := if dn < 40 then dn else 39
theorem x_add {g : mG} {dn : Nat} (hd : dn ≤ 40) (h5 : g.1 30 5 = nI dn) (d : Nat) (x1 x2 x3 x4 : Int32) : ∃ g', ev none (d + 1) mm_X1_add 0 [.ref 30, .int x1, .int x2, .int x3, .int x4] [] g = some (none, g') ∧ Fr sC g g' ∧ (∀ c k, 55 ≤ c → g'.1 c k = g.1 c k) ∧ g'.1 30 5 = nI (lm dn + 1) ∧ g'.1 30 6 = nI (lm dn + 1) ∧ (∀ i, i < lm dn → g'.1 31 i = g.1 31 (i + lsh dn) ∧ g'.1 32 i = g.1 32 (i + lsh dn) ∧ g'.1 33 i = g.1 33 (i + lsh dn) ∧ g'.1 34 i = g.1 34 (i + lsh dn)) ∧ g'.1 31 (lm dn) = x1 ∧ g'.1 32 (lm dn) = x2 ∧ g'.1 33 (lm dn) = x3 ∧ g'.1 34 (lm dn) = x4 := by
  have main : ∀ (g0 : mG) (m : Nat), m < 40 → g0.1 30 5 = nI m → ∃ g', ev none (d + 1) mm_X1_add 13 [.ref 30, .int x1, .int x2, .int x3, .int x4] [] g0 = some (none, g') ∧ Fr sC g0 g' ∧ (∀ c k, 55 ≤ c → g'.1 c k = g0.1 c k) ∧ g'.1 30 5 = nI (m + 1) ∧ g'.1 30 6 = nI (m + 1) ∧ (∀ i, i < m → g'.1 31 i = g0.1 31 i ∧ g'.1 32 i = g0.1 32 i ∧ g'.1 33 i = g0.1 33 i ∧ g'.1 34 i = g0.1 34 i) ∧ g'.1 31 m = x1 ∧ g'.1 32 m = x2 ∧ g'.1 33 m = x3 ∧ g'.1 34 m = x4 := by
    intro g0 m hm h0
    have j1 : ∀ x : Option (Option Value × mG), m_in (nI m) 40 x = x := fun x => mi_nI (by omega) (by omega)
    refine ⟨m_s1 (m_s1 (m_s1 (m_s1 (m_s1 (m_s1 g0 31 m x1) 32 m x2) 33 m x3) 34 m x4) 30 5 (nI (m + 1))) 30 6 (nI (m + 1)), ?_, ?_, ?_, ?_, ?_, ?_, ?_⟩
    · rw [b_X1_add_13, h0]
      simp only [j1]
      rw [pk_cl m (hx := rfl), nI_1]
    · exact fr_s1 (fr_s1 (fr_s1 (fr_s1 (fr_s1 (fr_s1 fr_refl rfl) rfl) rfl) rfl) rfl) rfl
    · intro c k hc
      rw [s1_ne (by omega), s1_ne (by omega), s1_ne (by omega), s1_ne (by omega), s1_ne (by omega), s1_ne (by omega)]
    · rw [s1_same (by omega), s1_at]
    · rw [s1_at]
    · intro i hi
      refine ⟨?_, ?_, ?_, ?_⟩
      · rw [s1_ne (by omega), s1_ne (by omega), s1_ne (by omega), s1_ne (by omega), s1_ne (by omega), s1_same (by omega)]
      · rw [s1_ne (by omega), s1_ne (by omega), s1_ne (by omega), s1_ne (by omega), s1_same (by omega), s1_ne (by omega)]
      · rw [s1_ne (by omega), s1_ne (by omega), s1_ne (by omega), s1_same (by omega), s1_ne (by omega), s1_ne (by omega)]
      · rw [s1_ne (by omega), s1_ne (by omega), s1_same (by omega), s1_ne (by omega), s1_ne (by omega), s1_ne (by omega)]
    · refine ⟨?_, ?_, ?_, ?_⟩
      · rw [s1_ne (by omega), s1_ne (by omega), s1_ne (by omega), s1_ne (by omega), s1_ne (by omega), s1_at]
      · rw [s1_ne (by omega), s1_ne (by omega), s1_ne (by omega), s1_ne (by omega), s1_at]
      · rw [s1_ne (by omega), s1_ne (by omega), s1_ne (by omega), s1_at]
      · rw [s1_ne (by omega), s1_ne (by omega), s1_at]
  rw [b_X1_add_0, h5]
  unfold lm lsh
  by_cases c : dn < 40
  · rw [m_if_pos (show nI dn < 40 from nI_lt (b := 40) c (by omega)), if_pos c, if_pos c]
    exact main g dn c h5
  · rw [m_if_neg (show ¬ nI dn < 40 from nI_nlt (b := 40) (by omega) (by omega)), if_neg c, if_neg c]
    obtain ⟨g1, e1, e2, e3⟩ := x_lose d 39 1 g (by omega) (by omega)
    rw [b_X1_loseOldest_0]
    have e1' : ev none d mm_X1_loseOldest 2 [.ref 30, .int 1] [] g = some (none, g1) := e1
    rw [e1', mb_some, mp_none]
    have F : Fr sC g g1 := by
      refine ⟨fun c k hc => ?_, fun c k _ => by rw [e2]⟩
      rw [e3, if_neg, if_neg]
      · intro q; rw [q.1, q.2] at hc; exact absurd hc (by decide)
      · intro q
        unfold sC at hc
        simp only [Bool.or_eq_false_iff, Bool.and_eq_false_iff, decide_eq_false_iff_not] at hc
        omega
    obtain ⟨g', k1, k2, k3, k4, k5, k6, k7⟩ := main g1 39 (by omega) (by rw [e3, if_neg (by omega), if_pos ⟨rfl, rfl⟩]; rfl)
    refine ⟨g', k1, fr_trans F k2, fun c k hc => ?_, k4, k5, fun i hi => ?_, k7⟩
    · rw [k3 c k hc, e3, if_neg (by omega), if_neg (by omega)]
    · obtain ⟨z1, z2, z3, z4⟩ := k6 i hi
      refine ⟨z1.trans ?_, z2.trans ?_, z3.trans ?_, z4.trans ?_⟩ <;> rw [e3, if_pos (by omega)]
theorem m_chg {g : mG} {dn : Nat} (hd : dn ≤ 40) (h5 : g.1 55 16 = nI dn) (d : Nat) (x1 x2 x3 x4 : Int32) (hne : ¬ x4 = x3) : ∃ g', (∀ g3, ev none d mm_X12_lays 0 [.ref 55, .int x1, .int x2, .int x3] [] g' = some (none, g3) → ev none (d + 1) mm_X12_changes 6 [.ref 55, .int x1, .int x2, .int x3, .null, .null] [.int x4] g = some (some (.int x4), g3)) ∧ Fr sC g g' ∧ (∀ c k, c < 55 → g'.1 c k = g.1 c k) ∧ g'.1 55 16 = nI (lm dn + 1) ∧ g'.1 55 17 = 0 ∧ (∀ i, i < lm dn → g'.1 67 i = g.1 67 (i + lsh dn) ∧ g'.1 68 i = g.1 68 (i + lsh dn) ∧ g'.1 69 i = g.1 69 (i + lsh dn) ∧ g'.1 70 i = g.1 70 (i + lsh dn)) ∧ g'.1 67 (lm dn) = x1 ∧ g'.1 68 (lm dn) = x2 ∧ g'.1 69 (lm dn) = x4 ∧ g'.1 70 (lm dn) = x3 := by
  have main : ∀ (g0 : mG) (m : Nat) (v5 : Value), m < 40 → g0.1 55 16 = nI m → ∃ g', (∀ g3, ev none d mm_X12_lays 0 [.ref 55, .int x1, .int x2, .int x3] [] g' = some (none, g3) → ev none (d + 1) mm_X12_changes 121 [.ref 55, .int x1, .int x2, .int x3, .int x4, v5] [] g0 = some (some (.int x4), g3)) ∧ Fr sC g0 g' ∧ (∀ c k, c < 55 → g'.1 c k = g0.1 c k) ∧ g'.1 55 16 = nI (m + 1) ∧ g'.1 55 17 = g0.1 55 17 ∧ (∀ i, i < m → g'.1 67 i = g0.1 67 i ∧ g'.1 68 i = g0.1 68 i ∧ g'.1 69 i = g0.1 69 i ∧ g'.1 70 i = g0.1 70 i) ∧ g'.1 67 m = x1 ∧ g'.1 68 m = x2 ∧ g'.1 69 m = x4 ∧ g'.1 70 m = x3 := by
    intro g0 m v5 hm h0
    have j1 : ∀ x : Option (Option Value × mG), m_in (nI m) 40 x = x := fun x => mi_nI (by omega) (by omega)
    refine ⟨m_s1 (m_s1 (m_s1 (m_s1 (m_s1 g0 67 m x1) 68 m x2) 69 m x4) 70 m x3) 55 16 (nI (m + 1)), ?_, ?_, ?_, ?_, ?_, ?_, ?_⟩
    · intro g3 h3
      rw [b_X12_changes_121, h0]
      simp only [j1]
      rw [pk_cl m (hx := rfl), nI_1, h3, mb_some, mp_none, b_X12_changes_179]
    · exact fr_s1 (fr_s1 (fr_s1 (fr_s1 (fr_s1 fr_refl rfl) rfl) rfl) rfl) rfl
    · intro c k hc
      rw [s1_ne (by omega), s1_ne (by omega), s1_ne (by omega), s1_ne (by omega), s1_ne (by omega)]
    · rw [s1_at]
    · rw [s1_same (by omega), s1_ne (by omega), s1_ne (by omega), s1_ne (by omega), s1_ne (by omega)]
    · intro i hi
      refine ⟨?_, ?_, ?_, ?_⟩
      · rw [s1_ne (by omega), s1_ne (by omega), s1_ne (by omega), s1_ne (by omega), s1_same (by omega)]
      · rw [s1_ne (by omega), s1_ne (by omega), s1_ne (by omega), s1_same (by omega), s1_ne (by omega)]
      · rw [s1_ne (by omega), s1_ne (by omega), s1_same (by omega), s1_ne (by omega), s1_ne (by omega)]
      · rw [s1_ne (by omega), s1_same (by omega), s1_ne (by omega), s1_ne (by omega), s1_ne (by omega)]
    · refine ⟨?_, ?_, ?_, ?_⟩
      · rw [s1_ne (by omega), s1_ne (by omega), s1_ne (by omega), s1_ne (by omega), s1_at]
      · rw [s1_ne (by omega), s1_ne (by omega), s1_ne (by omega), s1_at]
      · rw [s1_ne (by omega), s1_ne (by omega), s1_at]
      · rw [s1_ne (by omega), s1_at]
  have F0 : Fr sC g (m_s1 g 55 17 0) := fr_s1 fr_refl rfl
  unfold lm lsh
  by_cases c : dn < 40
  · rw [if_pos c, if_pos c]
    obtain ⟨g', k1, k2, k3, k4, k5, k6, k7⟩ := main (m_s1 g 55 17 0) dn .null c ((s1_same (by omega)).trans h5)
    refine ⟨g', fun g3 h3 => ?_, fr_trans F0 k2, fun c k hc => ?_, k4, k5.trans s1_at, fun i hi => ?_, k7⟩
    · rw [b_X12_changes_6, m_if_neg hne, h5, m_if_neg (fun e => by
        have := (nI_eq (a := dn) (b := 40) (by omega) (by omega)).mp e
        omega)]
      exact k1 g3 h3
    · rw [k3 c k hc, s1_ne (by omega)]
    · obtain ⟨z1, z2, z3, z4⟩ := k6 i hi
      refine ⟨z1.trans ?_, z2.trans ?_, z3.trans ?_, z4.trans ?_⟩ <;> rw [s1_ne (by omega)] <;> rfl
  · have e40 : dn = 40 := by omega
    subst e40
    rw [if_neg c, if_neg c]
    obtain ⟨g1, e1, e2, e3⟩ := m_lose (d + 1) x1 x2 x3 x4 39 1 (m_s1 g 55 17 0) (by omega) (by omega)
    have F : Fr sC g g1 := by
      refine fr_trans F0 ⟨fun c k hc => ?_, fun c k _ => by rw [e2]⟩
      rw [e3, if_neg, if_neg]
      · intro q; rw [q.1, q.2] at hc; exact absurd hc (by decide)
      · intro q
        unfold sC at hc
        simp only [Bool.or_eq_false_iff, Bool.and_eq_false_iff, decide_eq_false_iff_not] at hc
        omega
    obtain ⟨g', k1, k2, k3, k4, k5, k6, k7⟩ := main g1 39 (.int (nI 40)) (by omega) (by rw [e3, if_neg (by omega), if_pos ⟨rfl, rfl⟩, s1_same (by omega), h5]; rfl)
    refine ⟨g', fun g3 h3 => ?_, fr_trans F k2, fun c k hc => ?_, k4, ?_, fun i hi => ?_, k7⟩
    · rw [b_X12_changes_6, m_if_neg hne, h5, m_if_pos (show nI 40 = 40 from rfl)]
      exact e1.trans (k1 g3 h3)
    · rw [k3 c k hc, e3, if_neg (by omega), if_neg (by omega), s1_ne (by omega)]
    · rw [k5, e3, if_neg (by omega), if_neg (by omega), s1_at]
    · obtain ⟨z1, z2, z3, z4⟩ := k6 i hi
      refine ⟨z1.trans ?_, z2.trans ?_, z3.trans ?_, z4.trans ?_⟩ <;> rw [e3, if_pos (by omega), s1_ne (by omega)]
/-- what may be laid -/
def mh (w : Nat) (v : Int32) : Prop := ¬ v < sa0.getD w 0 ∧ ¬ sa1.getD w 0 < v
theorem mh_ix {w : Nat} (hw : w < 10) {v : Int32} (h : mh w v) : ix (mx w) v := by
  unfold mh at h
  revert h
  refine lt10 (P := fun w => (¬ v < sa0.getD w 0 ∧ ¬ sa1.getD w 0 < v) → ix (mx w) v) hw ?_ ?_ ?_ ?_ ?_ ?_ ?_ ?_ ?_ ?_
  · exact fun h => (ix_le (n := 24) (by omega)).mp h
  · exact fun h => (ix_le (n := 9) (by omega)).mp h
  · exact fun h => (ix_le (n := 24) (by omega)).mp h
  · exact fun h => (ix_le (n := 9) (by omega)).mp h
  · exact fun h => (ix_le (n := 99) (by omega)).mp h
  · exact fun h => (ix_le (n := 99) (by omega)).mp h
  · exact fun h => (ix_le (n := 1) (by omega)).mp h
  · exact fun h => (ix_le (n := 1) (by omega)).mp h
  · intro h
    refine (ix_le (n := 9) (by omega)).mp ⟨fun c1 => h.1 ?_, h.2⟩
    show v < 1
    rw [Int32.lt_iff_toInt_lt] at c1 ⊢
    have e1 : (0 : Int32).toInt = 0 := by decide
    have e2 : (1 : Int32).toInt = 1 := by decide
    omega
  · exact fun h => (ix_le (n := 99) (by omega)).mp h
theorem v_mayHave (d : Nat) (g : mG) (w : Nat) (hw : w < 10) (v : Int32) : ev none (d + 2) mm_X12_mayHave 0 [.int (nI w), .int v] [] g = some (some (.int (b2 (mh w v))), g) := by
  have e52 : ∀ x : Int32, ev none (d + 2) mm_X12_mayHave 52 [.int x, .int v] [] g = some (some (.int (b2 (¬ v < 0 ∧ ¬ 24 < v))), g) := by
    intro x
    rw [b_X12_mayHave_52, b_X12_isPlaceOf_0, v_X12_in, mb_some, mp_some, b_X12_isPlaceOf_7, if_pos (b2_and _), mb_some, mp_some, b_X12_mayHave_56, if_pos (b2_and _)]
  have e57 : ∀ x : Int32, ev none (d + 2) mm_X12_mayHave 57 [.int x, .int v] [] g = some (some (.int (b2 (¬ v < 0 ∧ ¬ 9 < v))), g) := by
    intro x
    rw [b_X12_mayHave_57, v_X12_in, mb_some, mp_some, b_X12_mayHave_64, if_pos (b2_and _)]
  have e65 : ∀ x : Int32, ev none (d + 2) mm_X12_mayHave 65 [.int x, .int v] [] g = some (some (.int (b2 (¬ v < 0 ∧ ¬ 1 < v))), g) := by
    intro x
    rw [b_X12_mayHave_65, v_X12_in, mb_some, mp_some, b_X12_mayHave_71, if_pos (b2_and _)]
  have e80 : ∀ x : Int32, ev none (d + 2) mm_X12_mayHave 80 [.int x, .int v] [] g = some (some (.int (b2 (¬ v < 0 ∧ ¬ 99 < v))), g) := by
    intro x
    rw [b_X12_mayHave_80, v_X12_in, mb_some, mp_some, b_X12_mayHave_87, if_pos (b2_and _)]
  rw [b_X12_mayHave_0, e52, e57, e65, e80, v_X12_in, mb_some, mp_some, b_X12_mayHave_79, if_pos (b2_and _)]
  refine lt10 (P := fun w => m_if (nI w = 0) _ (m_if (nI w = 1) _ (m_if (nI w = 2) _ (m_if (nI w = 3) _ (m_if (nI w = 4) _ (m_if (nI w = 5) _ (m_if (nI w = 6) _ (m_if (nI w = 7) _ (m_if (nI w = 8) _ _)))))))) = some (some (Value.int (b2 (mh w v))), g)) hw ?_ ?_ ?_ ?_ ?_ ?_ ?_ ?_ ?_ ?_
  · rw [m_if_pos (by decide)]; rfl
  · rw [m_if_neg (by decide), m_if_pos (by decide)]; rfl
  · rw [m_if_neg (by decide), m_if_neg (by decide), m_if_pos (by decide)]; rfl
  · rw [m_if_neg (by decide), m_if_neg (by decide), m_if_neg (by decide), m_if_pos (by decide)]; rfl
  · rw [m_if_neg (by decide), m_if_neg (by decide), m_if_neg (by decide), m_if_neg (by decide), m_if_pos (by decide)]; rfl
  · rw [m_if_neg (by decide), m_if_neg (by decide), m_if_neg (by decide), m_if_neg (by decide), m_if_neg (by decide), m_if_pos (by decide)]; rfl
  · rw [m_if_neg (by decide), m_if_neg (by decide), m_if_neg (by decide), m_if_neg (by decide), m_if_neg (by decide), m_if_neg (by decide), m_if_pos (by decide)]; rfl
  · rw [m_if_neg (by decide), m_if_neg (by decide), m_if_neg (by decide), m_if_neg (by decide), m_if_neg (by decide), m_if_neg (by decide), m_if_neg (by decide), m_if_pos (by decide)]; rfl
  · rw [m_if_neg (by decide), m_if_neg (by decide), m_if_neg (by decide), m_if_neg (by decide), m_if_neg (by decide), m_if_neg (by decide), m_if_neg (by decide), m_if_neg (by decide), m_if_pos (by decide)]; rfl
  · rw [m_if_neg (by decide), m_if_neg (by decide), m_if_neg (by decide), m_if_neg (by decide), m_if_neg (by decide), m_if_neg (by decide), m_if_neg (by decide), m_if_neg (by decide), m_if_neg (by decide)]; rfl
theorem mv_ix {n p : Nat} {h : mH} (hV : V n p h) {w a : Nat} (hw : w < 10) (ha : a < 12) (hh : hnw n p w (nI a)) : ix (mx w) (mv h w a) := by
  obtain ⟨v1, v2, v3, v4, v5, v6, v7, v8, v9, v10⟩ := hV
  obtain ⟨b, e, hb, h1, h2, h3⟩ := hnw_nI v1 v2 hh
  have e' : a = b := (nI_eq (by omega) (by omega)).mp e
  subst e'
  clear hh e hb
  revert h1 h2 h3
  refine lt10 (P := fun w => (w < 2 → a < n) → (2 ≤ w → w ≠ 8 → w ≠ 9 → a < p) → (w = 8 ∨ w = 9 → a = 0) → ix (mx w) (mv h w a)) hw ?_ ?_ ?_ ?_ ?_ ?_ ?_ ?_ ?_ ?_
  · exact fun h1 _ _ => (v5 a (h1 (by omega))).1
  · exact fun h1 _ _ => (v5 a (h1 (by omega))).2
  · exact fun _ h2 _ => (v6 a (h2 (by omega) (by omega) (by omega))).2.2.1
  · exact fun _ h2 _ => (v6 a (h2 (by omega) (by omega) (by omega))).2.2.2.1
  · exact fun _ h2 _ => (v6 a (h2 (by omega) (by omega) (by omega))).2.2.2.2.1
  · exact fun _ h2 _ => (v6 a (h2 (by omega) (by omega) (by omega))).2.2.2.2.2
  · exact fun _ _ _ => (v7 a ha).1
  · exact fun _ _ _ => (v7 a ha).2
  · exact fun _ _ _ => v9
  · exact fun _ _ _ => v10
theorem CE_of {n p w a : Nat} {x y : Int32} (hn : n ≤ 6) (hp : p ≤ 12) (hw : w < 10) (hh : hnw n p w (nI a)) (hx : ix (mx w) x) (hy : ix (mx w) y) : CE n p (nI w) (nI a) x y := by
  unfold hnw at hh
  refine ⟨w, hw, rfl, fun c => ?_, fun c1 c2 => ?_, fun c => ?_, hx, hy⟩
  · rw [if_pos c] at hh; exact hh
  · rw [if_neg (by omega), if_neg (by omega)] at hh; exact hh
  · rw [if_neg (by omega), if_pos (by omega)] at hh; exact hh
theorem CE_to {n p : Nat} {f b x y : Int32} (hn : n ≤ 6) (hp : p ≤ 12) (h : CE n p f b x y) : ∃ w a u v, w < 10 ∧ f = nI w ∧ b = nI a ∧ a < 12 ∧ hnw n p w (nI a) ∧ u < mx w ∧ x = nI u ∧ v < mx w ∧ y = nI v := by
  obtain ⟨w, h1, h2, h3, h4, h5, ⟨u, hu, eu⟩, ⟨v, hv, ev⟩⟩ := h
  have hh : hnw n p w b := by
    unfold hnw
    by_cases c : w < 2
    · rw [if_pos c]; exact h3 c
    · rw [if_neg c]
      by_cases c2 : w = 8 ∨ w = 9
      · rw [if_pos c2]; exact h5 (by omega)
      · rw [if_neg c2]; exact h4 (by omega) (by omega)
  obtain ⟨a, e, ha, _⟩ := hnw_nI hn hp hh
  subst e
  exact ⟨w, a, u, v, h1, h2, rfl, ha, hh, hu, eu, hv, ev⟩
theorem o_mend : op_mend Inv 1299 := by
  intro g hI a1 a2 a3
  obtain ⟨n', p', W', hX', hM'⟩ := inv_C hI
  clear hX' hM'
  have hI0 := hI
  obtain ⟨n, p, nb, W, hIV⟩ := hI
  have hIV0 : IV n p nb W g := hIV
  obtain ⟨hV, hR, hC, hP, hL, hG, hB, hS⟩ := hIV
  have hX : XR W n p g.1 g := ⟨hV, hR, by
    rcases hL with ⟨l1, l2, l3⟩ | ⟨l1, l2, l3, l4⟩
    · exact Or.inl ⟨l1, l3⟩
    · exact Or.inr ⟨l1, l3⟩⟩
  have hM : MC W n p g.1 g := ⟨hV, ⟨rfl, rfl, rfl, rfl, fun k => ⟨rfl, rfl, rfl, rfl, rfl, rfl, rfl, rfl, rfl, rfl⟩⟩, by
    rcases hL with ⟨l1, l2, l3⟩ | ⟨l1, l2, l3, l4⟩
    · exact Or.inl ⟨l2, l3⟩
    · exact Or.inr ⟨l2, l4⟩⟩
  have hn : n ≤ 6 := hX.1.1
  have hp : p ≤ 12 := hX.1.2.1
  by_cases h : ix 10 a2
  · have h3 := ix10.mpr h
    obtain ⟨w, hw, e⟩ := h
    subst e
    have hM0 : ∀ g1 : mG, MC W n p g.1 g1 → ev none 1299 mm_X12_mend 0 [.ref 55, .int a1, .int (nI w), .int a3] [] g1 = m_if (hnw n p w a1) (m_if (mh w a3) (m_bnd (ev none 1298 mm_X12_changes 0 [.ref 55, .int (nI w), .int a1, .int a3, .null, .null] [] g1) (fun r g2 => ev none 1299 mm_X12_mend 24 [.ref 55, .int a1, .int (nI w), .int a3] (m_psh r []) g2)) (some (some (.int (-1)), g1))) (some (some (.int (-1)), g1)) := by
      intro g1 hM1
      rw [b_X12_mend_0, v_isPlaceM hM1 _ w hw, mb_some, mp_some, b_X12_mend_6, mi_b2, v_mayHave _ _ w hw, mb_some, mp_some, b_X12_mend_14, mi_b2]
    have hX0 : ev none 1299 mm_X11_mend 0 [.ref 0, .int a1, .int (nI w), .int a3, .null] [] g = _ := b_X11_mend_0 1298 g a1 (nI w) a3
    rw [m_if_neg h3.1, m_if_pos h3.2, v_hasNumber _ g hn hp hX.2.1.1 hX.2.1.2.1 _ w (by omega), mb_some, mp_some, b_X11_mend_19, mi_b2, mi_nI hw (by omega), mi_nI hw (by omega), pk_cl w (hx := rfl)] at hX0
    by_cases hh : hnw n p w a1
    · by_cases hm : mh w a3
      · obtain ⟨a, e, ha, b1, b2, b3⟩ := hnw_nI hn hp hh
        subst e
        rw [m_if_pos hh, m_if_neg hm.1, m_if_neg hm.2, v_numberOf hX _ w a (by omega) ha hh, mb_some, mp_some, b_X11_mend_51] at hX0
        by_cases c : mv g.1 w a = a3
        · rw [m_if_pos c, b_X11_mend_81] at hX0
          refine op_bad (mv g.1 w a) hI0 hX0 ?_
          rw [hM0 g hM, m_if_pos hh, m_if_pos hm, b_X12_changes_0, v_valueAt hM _ w a hw ha hh, mb_some, mp_some, b_X12_changes_6, m_if_pos c, mb_some, mp_some, b_X12_mend_24]
        · obtain ⟨v, hv, ev3⟩ := mh_ix hw hm
          subst ev3
          obtain ⟨dn, un, c1, c2, c3, c4, c5, c6⟩ := hC
          obtain ⟨g1, y1, y2, y3, y4, y5, y6, y7, y8, y9, y10⟩ := x_add (g := g) (dn := dn) (by omega) c2 1297 (nI a) (nI w) (mv g.1 w a) (nI v)
          have z12 : g1.1 1 12 = nI n := (y2.1 1 12 rfl).trans hX.2.1.1
          have z13 : g1.1 1 13 = nI p := (y2.1 1 13 rfl).trans hX.2.1.2.1
          have y1' : ev none 1298 mm_X1_add 0 [.ref 30, .int (nI a), .int (nI w), .int (mv g.1 w a), .int (nI v)] [] g = some (none, g1) := y1
          have s1' : ev none 1298 mm_X9_setNumber 0 [.ref 1, .int (nI a), .int (nI w), .int (nI v)] [] g1 = some (none, wx w a (nI v) g1) := v_setNumber hn hp z12 z13 1296 w a (nI v) hw ha hh
          rw [m_if_neg c, y1', mb_some, mp_none, b_X11_mend_71, s1', mb_some, mp_none, b_X11_mend_81] at hX0
          have hM1 : MC W n p g.1 (wx w a (nI v) g1) := MC_ge (fun c k hc => (wx_ne (by omega)).trans (y3 c k hc)) hM
          have q16 : (wx w a (nI v) g1).1 55 16 = nI dn := (wx_ne (by omega)).trans ((y3 55 16 (by omega)).trans c4)
          obtain ⟨g2, x1, x2, x3, x4, x5, x6, x7, x8, x9, x10⟩ := m_chg (g := wx w a (nI v) g1) (dn := dn) (by omega) q16 1297 (nI w) (nI a) (nI v) (mv g.1 w a) c
          have x1' := x1 (wm w a (nI v) g2) (v_lays hn hp 1297 g2 w a (nI v) hw ha hh)
          refine ⟨_, _, wm w a (nI v) g2, hX0, ?_, ?_⟩
          · rw [hM0 _ hM1, m_if_pos hh, m_if_pos hm, b_X12_changes_0, v_valueAt hM1 _ w a hw ha hh, mb_some, mp_some]
            have x1'' : ev none 1298 mm_X12_changes 6 [.ref 55, .int (nI w), .int (nI a), .int (nI v), .null, .null] [.int (mv g.1 w a)] (wx w a (nI v) g1) = some (some (.int (mv g.1 w a)), wm w a (nI v) g2) := x1'
            rw [x1'', mb_some, mp_some, b_X12_mend_24]
          · have F : Fr sC (wm w a (nI v) (wx w a (nI v) g)) (wm w a (nI v) g2) := wm_fr (fr_trans (wx_fr y2 rfl rfl) x2)
            refine ⟨n, p, nb, W, IV_frC F (IV_set hIV0 w a v hw ha hh hv) ?_⟩
            have hlm : lm dn + 1 ≤ 40 ∧ lm dn + lsh dn ≤ dn := by
              unfold lm lsh
              split <;> omega
            have lo : ∀ c k, c < 55 → 11 ≤ c → (wm w a (nI v) g2).1 c k = g1.1 c k := fun c k h1 h2 => (wm_ne (Or.inl h1)).trans ((x3 c k h1).trans (wx_ne h2))
            have hi : ∀ c k, 66 ≤ c → (wm w a (nI v) g2).1 c k = g2.1 c k := fun c k h1 => wm_ne (Or.inr h1)
            refine ⟨lm dn + 1, 0, by omega, ?_, ?_, ?_, ?_, ?_⟩
            · rw [lo _ _ (by omega) (by omega)]; exact y4
            · rw [lo _ _ (by omega) (by omega)]; exact y5
            · rw [wm_55 (by omega) (by omega)]; exact x4
            · rw [wm_55 (by omega) (by omega)]; exact x5
            · intro i hi'
              rw [lo 31 _ (by omega) (by omega), lo 32 _ (by omega) (by omega), lo 33 _ (by omega) (by omega), lo 34 _ (by omega) (by omega), hi 67 _ (by omega), hi 68 _ (by omega), hi 69 _ (by omega), hi 70 _ (by omega)]
              by_cases ci : i = lm dn
              · subst ci
                rw [y7, y8, y9, y10, x7, x8, x9, x10]
                exact ⟨rfl, rfl, rfl, rfl, CE_of hn hp hw hh (mv_ix hV hw ha hh) ⟨v, hv, rfl⟩⟩
              · obtain ⟨t1, t2, t3, t4⟩ := y6 i (by omega)
                obtain ⟨u1, u2, u3, u4⟩ := x6 i (by omega)
                have wg : ∀ c k, 67 ≤ c → (wx w a (nI v) g1).1 c k = g.1 c k := fun c k h1 => (wx_ne (by omega)).trans (y3 c k (by omega))
                rw [wg 67 _ (by omega)] at u1
                rw [wg 68 _ (by omega)] at u2
                rw [wg 69 _ (by omega)] at u3
                rw [wg 70 _ (by omega)] at u4
                rw [t1, t2, t3, t4, u1, u2, u3, u4]
                exact c6 (i + lsh dn) (by omega)
      · rw [m_if_pos hh] at hX0
        refine op_bad (-1) hI0 ?_ ?_
        · rw [hX0]
          by_cases c : a3 < sa0.getD w 0
          · rw [m_if_pos c]
          · rw [m_if_neg c, m_if_pos (Decidable.byContradiction (fun c2 => hm ⟨c, c2⟩))]
        · rw [hM0 g hM, m_if_pos hh, m_if_neg hm]
    · rw [m_if_neg hh] at hX0
      refine op_bad (-1) hI0 hX0 ?_
      rw [hM0 g hM, m_if_neg hh]
  · refine op_bad (-1) hI0 ?_ ?_
    · rw [b_X11_mend_0]
      by_cases c : a2 < 0
      · rw [m_if_pos c]
      · rw [m_if_neg c, m_if_neg (fun c2 => h (ix10.mp ⟨c, c2⟩))]
    · rw [b_X12_mend_0, v_isPlace_no hM _ _ _ h, mb_some, mp_some, b_X12_mend_6, m_if_pos rfl]
theorem o_undo : op_undo Inv 1299 := by
  intro g hI _
  have hI0 := hI
  obtain ⟨n, p, nb, W, hIV⟩ := hI
  have hIV0 : IV n p nb W g := hIV
  obtain ⟨hV, hR, ⟨dn, un, c1, c2, c3, c4, c5, c6⟩, hP, hL, hG, hB, hS⟩ := hIV
  have hn : n ≤ 6 := hV.1
  have hp : p ≤ 12 := hV.2.1
  rw [b_X11_undo_0, b_X1_takeBack_0, c2]
  by_cases c : dn = 0
  · subst c
    rw [m_if_neg (show ¬ (0 : Int32) < nI 0 by decide), mb_some, mp_some, b_X11_undo_7]
    refine ⟨_, _, g, rfl, ?_, hI0⟩
    rw [b_X12_undo_0, c4, m_if_pos (show nI 0 = 0 from rfl)]
  · obtain ⟨i, ei⟩ : ∃ i, dn = i + 1 := ⟨dn - 1, by omega⟩
    subst ei
    obtain ⟨d1, d2, d3, d4, d5⟩ := c6 i (by omega)
    obtain ⟨w, a, u, v, hw, e67, e68, ha, hh, hu, e69, hv, e70⟩ := CE_to hn hp d5
    have j1 : ∀ x : Option (Option Value × mG), m_in (nI i) 40 x = x := fun x => mi_nI (by omega) (by omega)
    have s1' : ev none 1297 mm_X9_setNumber 0 [.ref 1, .int (nI a), .int (nI w), .int (nI u)] [] (m_s1 g 30 5 (nI i)) = some (none, wx w a (nI u) (m_s1 g 30 5 (nI i))) := v_setNumber (g := m_s1 g 30 5 (nI i)) hn hp hR.1 hR.2.1 1295 w a (nI u) hw ha hh
    rw [m_if_pos (show (0 : Int32) < nI (i + 1) from nI_lt (a := 0) (by omega) (by omega)), nI_pred, j1, j1, j1, pk_cl i (hx := rfl), d1, d2, d3, e67, e68, e69, s1', mb_some, mp_none, b_X1_takeBack_54, mb_some, mp_some, b_X11_undo_7]
    have q5 : (wx w a (nI u) (m_s1 g 30 5 (nI i))).1 30 5 = nI i := (wx_ne (by omega)).trans s1_at
    have hi : ∀ c k, 55 ≤ c → (wx w a (nI u) (m_s1 g 30 5 (nI i))).1 c k = g.1 c k := fun c k hc => (wx_ne (by omega)).trans (s1_ne (by omega))
    rw [q5]
    refine ⟨_, _, wm w a (nI u) (m_s1 (m_s1 (wx w a (nI u) (m_s1 g 30 5 (nI i))) 55 16 (nI i)) 55 17 (nI (un + 1))), rfl, ?_, ?_⟩
    · rw [b_X12_undo_0, hi 55 16 (by omega), hi 55 17 (by omega), c4, c5, m_if_neg (nI_ne0 (by omega) (by omega)), nI_pred, j1, j1, j1, pk_cl i (hx := rfl), hi 67 _ (by omega), hi 68 _ (by omega), hi 69 _ (by omega), e67, e68, e69, v_lays hn hp _ _ w a (nI u) hw ha hh, mb_some, mp_none, b_X12_undo_61, nI_1, wm_55 (by omega) (by omega), s1_same (by omega), s1_at]
    · have F : Fr sC (wm w a (nI u) (wx w a (nI u) g)) (wm w a (nI u) (m_s1 (m_s1 (wx w a (nI u) (m_s1 g 30 5 (nI i))) 55 16 (nI i)) 55 17 (nI (un + 1)))) := wm_fr (fr_s1 (fr_s1 (wx_fr (fr_s1 fr_refl rfl) rfl rfl) rfl) rfl)
      refine ⟨n, p, nb, W, IV_frC F (IV_set hIV0 w a u hw ha hh hu) ?_⟩
      have lo : ∀ c k, c < 55 → 11 ≤ c → c ≠ 30 → (wm w a (nI u) (m_s1 (m_s1 (wx w a (nI u) (m_s1 g 30 5 (nI i))) 55 16 (nI i)) 55 17 (nI (un + 1)))).1 c k = g.1 c k := fun c k h1 h2 h3 => (wm_ne (Or.inl h1)).trans ((s1_ne (by omega)).trans ((s1_ne (by omega)).trans ((wx_ne h2).trans (s1_ne h3))))
      have hi2 : ∀ c k, 66 ≤ c → (wm w a (nI u) (m_s1 (m_s1 (wx w a (nI u) (m_s1 g 30 5 (nI i))) 55 16 (nI i)) 55 17 (nI (un + 1)))).1 c k = g.1 c k := fun c k h1 => (wm_ne (Or.inr h1)).trans ((s1_ne (by omega)).trans ((s1_ne (by omega)).trans (hi c k (by omega))))
      refine ⟨i, un + 1, by omega, ?_, ?_, ?_, ?_, ?_⟩
      · exact (wm_ne (Or.inl (by omega))).trans ((s1_ne (by omega)).trans ((s1_ne (by omega)).trans q5))
      · refine (wm_ne (Or.inl (by omega))).trans ((s1_ne (by omega)).trans ((s1_ne (by omega)).trans ((wx_ne (by omega)).trans ((s1_same (by omega)).trans ?_))))
        rw [c3, show i + 1 + un = i + (un + 1) by omega]
      · rw [wm_55 (by omega) (by omega), s1_same (by omega), s1_at]
      · rw [wm_55 (by omega) (by omega), s1_at]
      · intro k hk
        rw [lo 31 _ (by omega) (by omega) (by omega), lo 32 _ (by omega) (by omega) (by omega), lo 33 _ (by omega) (by omega) (by omega), lo 34 _ (by omega) (by omega) (by omega), hi2 67 _ (by omega), hi2 68 _ (by omega), hi2 69 _ (by omega), hi2 70 _ (by omega)]
        exact c6 k (by omega)
theorem o_redo : op_redo Inv 1299 := by
  intro g hI _
  have hI0 := hI
  obtain ⟨n, p, nb, W, hIV⟩ := hI
  have hIV0 : IV n p nb W g := hIV
  obtain ⟨hV, hR, ⟨dn, un, c1, c2, c3, c4, c5, c6⟩, hP, hL, hG, hB, hS⟩ := hIV
  have hn : n ≤ 6 := hV.1
  have hp : p ≤ 12 := hV.2.1
  rw [b_X11_redo_0, b_X1_doAgain_0, c2, c3]
  by_cases c : un = 0
  · subst c
    rw [m_if_neg (nI_nlt (by omega) (by omega)), mb_some, mp_some, b_X11_redo_7]
    refine ⟨_, _, g, rfl, ?_, hI0⟩
    rw [b_X12_redo_0, c5, m_if_pos (show nI 0 = 0 from rfl)]
  · obtain ⟨d1, d2, d3, d4, d5⟩ := c6 dn (by omega)
    obtain ⟨w, a, u, v, hw, e67, e68, ha, hh, hu, e69, hv, e70⟩ := CE_to hn hp d5
    have j1 : ∀ x : Option (Option Value × mG), m_in (nI dn) 40 x = x := fun x => mi_nI (by omega) (by omega)
    have s1' : ev none 1297 mm_X9_setNumber 0 [.ref 1, .int (nI a), .int (nI w), .int (nI v)] [] g = some (none, wx w a (nI v) g) := v_setNumber hn hp hR.1 hR.2.1 1295 w a (nI v) hw ha hh
    have lx : ∀ c k, 11 ≤ c → (wx w a (nI v) g).1 c k = g.1 c k := fun c k hc => wx_ne hc
    have ev1 : nI (dn + un) - nI (dn + 1) = nI (un - 1) := by
      rw [pk_sub (by omega), show dn + un - (dn + 1) = un - 1 by omega]
    have ev2 : nI un - 1 = nI (un - 1) := pk_sub (a := un) (b := 1) (by omega)
    rw [m_if_pos (nI_lt (by omega) (by omega)), j1, j1, j1, pk_cl dn (hx := rfl), d1, d2, d4, e67, e68, e70, s1', mb_some, mp_none, b_X1_doAgain_48, lx 30 5 (by omega), lx 30 6 (by omega), c2, c3, mb_some, mp_some, b_X11_redo_7, nI_1, ev1]
    have hi : ∀ c k, 55 ≤ c → (m_s1 (wx w a (nI v) g) 30 5 (nI (dn + 1))).1 c k = g.1 c k := fun c k hc => (s1_ne (by omega)).trans (lx c k (by omega))
    have w55 : ∀ k, k ≠ 13 → k ≠ 14 → (wm w a (nI v) (m_s1 (wx w a (nI v) g) 30 5 (nI (dn + 1)))).1 55 k = g.1 55 k := fun k h1 h2 => (wm_55 h1 h2).trans (hi 55 k (by omega))
    refine ⟨_, _, m_s1 (m_s1 (wm w a (nI v) (m_s1 (wx w a (nI v) g) 30 5 (nI (dn + 1)))) 55 16 (nI (dn + 1))) 55 17 (nI (un - 1)), rfl, ?_, ?_⟩
    · rw [b_X12_redo_0, hi 55 17 (by omega), hi 55 16 (by omega), c4, c5, m_if_neg (nI_ne0 (by omega) (by omega)), j1, j1, j1, pk_cl dn (hx := rfl), hi 67 _ (by omega), hi 68 _ (by omega), hi 70 _ (by omega), e67, e68, e70, v_lays hn hp _ _ w a (nI v) hw ha hh, mb_some, mp_none, b_X12_redo_41, w55 16 (by omega) (by omega), w55 17 (by omega) (by omega), c4, c5, nI_1, ev2]
    · have F : Fr sC (wm w a (nI v) (wx w a (nI v) g)) (m_s1 (m_s1 (wm w a (nI v) (m_s1 (wx w a (nI v) g) 30 5 (nI (dn + 1)))) 55 16 (nI (dn + 1))) 55 17 (nI (un - 1))) := fr_s1 (fr_s1 (wm_fr (fr_s1 fr_refl rfl)) rfl) rfl
      refine ⟨n, p, nb, W, IV_frC F (IV_set hIV0 w a v hw ha hh hv) ?_⟩
      have lo : ∀ c k, c < 55 → 11 ≤ c → c ≠ 30 → (m_s1 (m_s1 (wm w a (nI v) (m_s1 (wx w a (nI v) g) 30 5 (nI (dn + 1)))) 55 16 (nI (dn + 1))) 55 17 (nI (un - 1))).1 c k = g.1 c k := fun c k h1 h2 h3 => (s1_ne (by omega)).trans ((s1_ne (by omega)).trans ((wm_ne (Or.inl h1)).trans ((s1_ne h3).trans (wx_ne h2))))
      have hi2 : ∀ c k, 66 ≤ c → (m_s1 (m_s1 (wm w a (nI v) (m_s1 (wx w a (nI v) g) 30 5 (nI (dn + 1)))) 55 16 (nI (dn + 1))) 55 17 (nI (un - 1))).1 c k = g.1 c k := fun c k h1 => (s1_ne (by omega)).trans ((s1_ne (by omega)).trans ((wm_ne (Or.inr h1)).trans (hi c k (by omega))))
      refine ⟨dn + 1, un - 1, by omega, ?_, ?_, ?_, ?_, ?_⟩
      · exact (s1_ne (by omega)).trans ((s1_ne (by omega)).trans ((wm_ne (Or.inl (by omega))).trans s1_at))
      · refine (s1_ne (by omega)).trans ((s1_ne (by omega)).trans ((wm_ne (Or.inl (by omega))).trans ((s1_same (by omega)).trans ((wx_ne (by omega)).trans ?_))))
        rw [c3, show dn + un = dn + 1 + (un - 1) by omega]
      · rw [s1_same (by omega), s1_at]
      · rw [s1_at]
      · intro k hk
        rw [lo 31 _ (by omega) (by omega) (by omega), lo 32 _ (by omega) (by omega) (by omega), lo 33 _ (by omega) (by omega) (by omega), lo 34 _ (by omega) (by omega) (by omega), hi2 67 _ (by omega), hi2 68 _ (by omega), hi2 69 _ (by omega), hi2 70 _ (by omega)]
        exact c6 k (by omega)
