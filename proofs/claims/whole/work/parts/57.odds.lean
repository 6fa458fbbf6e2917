/-! OPERATIONS (17): odds -/
abbrev lO (n : Nat) : Int64 := Int64.ofNat n
theorem lO_add (a b : Nat) : lO a + lO b = lO (a + b) := (Int64.ofNat_add a b).symm
theorem lO_c0 : ∀ c, c < 13 → ¬ lg_cmp (lO (2 ^ c)) 0 = 0 ∧ ¬ lO (2 ^ c) = 0 := by decide +kernel
theorem lO_m1 : ∀ e, e < 13 → ∀ c, c < 13 → e < c → lO (2 ^ e) - lO (2 ^ e) / lO (2 ^ c) * lO (2 ^ c) = lO (2 ^ e) := by decide +kernel
theorem lO_m0 : ∀ e, e < 13 → ∀ c, c < 13 → c ≤ e → lO (2 ^ e) - lO (2 ^ e) / lO (2 ^ c) * lO (2 ^ c) = 0 := by decide +kernel
theorem lO_d : ∀ e, e < 13 → ∀ c, c < 13 → c ≤ e → lO (2 ^ e) / lO (2 ^ c) = lO (2 ^ (e - c)) := by decide +kernel
theorem lO_2 : ∀ e, e < 13 → lO (2 ^ e) * 2 = lO (2 ^ (e + 1)) := by decide +kernel
def GR (W : mW) (p : Nat) (h : mH) (one q : Nat) (f : Int32) : Prop := ¬ hdG W h (h 55 14) q 0 (nI (pop (TT p h one)) - 1) f < h 55 13
noncomputable def av (W : mW) (p : Nat) (h : mH) (one q : Nat) : Nat := @ite _ (GR W p h one q 0) (Classical.propDecidable _) 0 1 + @ite _ (GR W p h one q 1) (Classical.propDecidable _) 0 1
def bad (W : mW) (p : Nat) (h : mH) (one : Nat) : Prop := ∃ q, q < p ∧ (TT p h one).testBit q = true ∧ av W p h one q = 0
def c1 (W : mW) (p : Nat) (h : mH) (one q : Nat) : Prop := (TT p h one).testBit q = true ∧ av W p h one q = 1
noncomputable def oAns (W : mW) (p : Nat) (h : mH) (one : Nat) (x2 : Int32) : Int64 := @ite _ (bad W p h one) (Classical.propDecidable _) (if x2 = 0 then 0 else 1) (if x2 = 0 then 1 else lO (2 ^ cnt p (c1 W p h one)))
theorem av_00 {W : mW} {p : Nat} {h : mH} {one q : Nat} (a : GR W p h one q 0) (b : GR W p h one q 1) : av W p h one q = 0 := by unfold av; rw [if_pos a, if_pos b]
theorem av_01 {W : mW} {p : Nat} {h : mH} {one q : Nat} (a : GR W p h one q 0) (b : ¬ GR W p h one q 1) : av W p h one q = 1 := by unfold av; rw [if_pos a, if_neg b]
theorem av_10 {W : mW} {p : Nat} {h : mH} {one q : Nat} (a : ¬ GR W p h one q 0) (b : GR W p h one q 1) : av W p h one q = 1 := by unfold av; rw [if_neg a, if_pos b]
theorem av_11 {W : mW} {p : Nat} {h : mH} {one q : Nat} (a : ¬ GR W p h one q 0) (b : ¬ GR W p h one q 1) : av W p h one q = 2 := by unfold av; rw [if_neg a, if_neg b]
theorem x_chance {W : mW} {n p : Nat} {h : mH} {g : mG} (hX : XR W n p h g) (d : Nat) (one : Nat) (x2 : Int32) (h1 : one < n) : Ok (ev none (d + 4) mm_X5_chance 0 [.ref 23, .int (nI one), .int x2, .null, .null, .null, .null, .null, .null, .null, .null] [] g) (fun r g2 => r = some (.long (oAns W p h one x2)) ∧ Fr sA g g2) := by
  have hp : p ≤ 12 := hX.1.2.1
  have hT := TT_lt hX.1 one
  obtain ⟨g', e1, F1, hM, hR⟩ := x_now hX (d + 3)
  obtain ⟨hV, hXT, hLX, o1, o2, o3, o4⟩ := hM
  rw [b_X5_chance_0, x_there hX _ one h1, mb_some, mp_some, b_X5_chance_5, v_bitCount _ _ _ hT.1, mb_some, mp_some, b_X5_chance_10, e1, mb_some, mp_some, b_X5_chance_21]
  refine ok_loop (E := fun k (a : Value × Value) g => ev none (d + 4) mm_X5_chance 29 [.ref 23, .int (nI one), .int x2, .int (nI (TT p h one)), .int (nI (pop (TT p h one)) - 1), .ref 15, .long (lO (2 ^ cnt k (c1 W p h one))), .null, .int (nI k), a.1, a.2] [] g) (I := fun k _ g3 => (∀ q, q < k → (TT p h one).testBit q = true → av W p h one q ≠ 0) ∧ Fr s2 g' g3 ∧ g3.1 15 0 = h 55 14 ∧ g3.1 15 3 = 0) (P := p) ?_ ?_ 0 (.null, .null) g' (by omega) ⟨fun _ z => by omega, fr_refl, o1, o4⟩
  · intro k ⟨w1, w2⟩ g3 hk ⟨i1, F3, i3, i4⟩ next
    have hT3 := XT_fr (fr_2A F3) hXT
    have hcl : cnt k (c1 W p h one) < 13 := by have := cnt_le (k := k) (c := c1 W p h one); omega
    show Ok (ev none (d + 4) mm_X5_chance 29 [.ref 23, .int (nI one), .int x2, .int (nI (TT p h one)), .int (nI (pop (TT p h one)) - 1), .ref 15, .long (lO (2 ^ cnt k (c1 W p h one))), .null, .int (nI k), w1, w2] [] g3) _
    rw [b_X5_chance_29, hT3.2.1, m_if_pos (nI_lt hk (by omega)), v_hasBit _ _ _ _ (by omega) (by omega), mb_some, mp_some, b_X5_chance_47, mi_b2]
    refine ok_if (fun c => ?_) (fun c => ?_)
    · have g4F : Fr s2 g' (m_s1 g3 15 2 0) := fr_s1 F3 rfl
      refine ok_bnd (x_hardG hV (XT_fr (fr_2A g4F) hXT) (LX_fr (fr_2A g4F) hLX) ((s1_same (by decide)).trans i3) hV.2.2.2.2.2.2.2.2.2 0 (by omega) s1_at d k hk _) ?_
      intro r g4 ⟨hr, F4⟩
      subst hr
      have F4' := fr_trans g4F (fr_12 F4)
      have hT4 := XT_fr (fr_2A F4') hXT
      have e0 : b2 ((0 : Nat).testBit k = true) = 0 := b2_f (by rw [Nat.zero_testBit]; decide)
      have e3 : (m_s1 g3 15 2 0).1 15 3 = 0 := (s1_same (by decide)).trans i4
      have e1b : b2 ((2 ^ k).testBit k = true) = 1 := b2_t (by rw [t_tb2]; exact decide_eq_true rfl)
      rw [e0, e3, mp_some, b_X5_chance_72, hT4.2.2.1]
      have g5F : Fr s2 g' (m_s1 g4 15 2 (nI (2 ^ k))) := fr_s1 F4' rfl
      have h2k : 2 ^ k < 4096 := show 2 ^ k < 2 ^ 12 from Nat.pow_lt_pow_right (by omega) (by omega)
      have second : ∀ x9 : Int32, Ok (ev none (d + 4) mm_X5_chance 87 [.ref 23, .int (nI one), .int x2, .int (nI (TT p h one)), .int (nI (pop (TT p h one)) - 1), .ref 15, .long (lO (2 ^ cnt k (c1 W p h one))), .null, .int (nI k), w1, w2] [.int (b2 (GR W p h one k 0))] g4) (fun r g2 => r = some (.long (oAns W p h one x2)) ∧ Fr sA g g2) := by
        intro _
        rw [b_X5_chance_87, t_sh1 k (by omega)]
        refine ok_bnd (x_hardG hV (XT_fr (fr_2A g5F) hXT) (LX_fr (fr_2A g5F) hLX) ((s1_same (by decide)).trans ((F4.1 15 0 rfl).trans ((s1_same (by decide)).trans i3))) hV.2.2.2.2.2.2.2.2.2 (2 ^ k) h2k s1_at d k hk _) ?_
        intro r g6 ⟨hr, F6⟩
        subst hr
        have F6' := fr_trans g5F (fr_12 F6)
        have hT6 := XT_fr (fr_2A F6') hXT
        have e3' : (m_s1 g4 15 2 (nI (2 ^ k))).1 15 3 = 0 := (s1_same (by decide)).trans ((F4.1 15 3 rfl).trans e3)
        have i6 : g6.1 15 0 = h 55 14 := (F6.1 15 0 rfl).trans ((s1_same (by decide)).trans ((F4.1 15 0 rfl).trans ((s1_same (by decide)).trans i3)))
        have i7 : g6.1 15 3 = 0 := (F6.1 15 3 rfl).trans e3'
        rw [e1b, e3', mp_some, b_X5_chance_111, hT6.2.2.1]
        have third : Ok (ev none (d + 4) mm_X5_chance 126 [.ref 23, .int (nI one), .int x2, .int (nI (TT p h one)), .int (nI (pop (TT p h one)) - 1), .ref 15, .long (lO (2 ^ cnt k (c1 W p h one))), .null, .int (nI k), .int (b2 (GR W p h one k 0)), w2] [.int (b2 (GR W p h one k 1))] g6) (fun r g2 => r = some (.long (oAns W p h one x2)) ∧ Fr sA g g2) := by
          have nx1 : av W p h one k = 1 → Ok (ev none (d + 4) mm_X5_chance 158 [.ref 23, .int (nI one), .int x2, .int (nI (TT p h one)), .int (nI (pop (TT p h one)) - 1), .ref 15, .long (lO (2 ^ cnt k (c1 W p h one))), .null, .int (nI k), .int (b2 (GR W p h one k 0)), .int (b2 (GR W p h one k 1))] [] g6) (fun r g2 => r = some (.long (oAns W p h one x2)) ∧ Fr sA g g2) := by
            intro ha
            rw [b_X5_chance_158, b_X5_chance_169, b_X5_chance_171, nI_1, lO_2 _ hcl, ← cnt_t (show c1 W p h one k from ⟨c, ha⟩)]
            refine next (_, _) g6 ⟨fun q hq hb => ?_, F6', i6, i7⟩
            by_cases e : q = k
            · subst e; rw [ha]; decide
            · exact i1 q (by omega) hb
          rw [b_X5_chance_126, mi_c b2_0]
          by_cases a : GR W p h one k 0
          · rw [m_if_neg (not_not_intro a), mi_c b2_0]
            by_cases b : GR W p h one k 1
            · rw [m_if_neg (not_not_intro b)]
              have hbad : bad W p h one := ⟨k, hk, c, av_00 a b⟩
              refine ok_if (fun z => ok_some ⟨?_, fr_trans (fr_2A F1) (fr_2A F6')⟩) (fun z => ok_some ⟨?_, fr_trans (fr_2A F1) (fr_2A F6')⟩)
              · unfold oAns; rw [if_pos hbad, if_pos z]
              · unfold oAns; rw [if_pos hbad, if_neg z]
            · rw [m_if_pos b, b_X5_chance_148, mi_c b2_0, m_if_neg (not_not_intro a)]
              exact nx1 (av_01 a b)
          · rw [m_if_pos a, b_X5_chance_148, mi_c b2_0, m_if_pos a, mi_c b2_0]
            by_cases b : GR W p h one k 1
            · rw [m_if_neg (not_not_intro b)]
              exact nx1 (av_10 a b)
            · rw [m_if_pos b, b_X5_chance_169, b_X5_chance_171, nI_1, ← cnt_f (k := k) (c := c1 W p h one) (fun z => by have := z.2; rw [av_11 a b] at this; exact absurd this (by decide))]
              refine next (_, _) g6 ⟨fun q hq hb => ?_, F6', i6, i7⟩
              by_cases e : q = k
              · subst e; rw [av_11 a b]; decide
              · exact i1 q (by omega) hb
        refine ok_if (fun z => ?_) (fun z => ?_)
        · rw [b2_f (show ¬ GR W p h one k 1 from not_not_intro z)] at third; exact third
        · rw [b2_t (show GR W p h one k 1 from z)] at third; exact third
      refine ok_if (fun z => ?_) (fun z => ?_)
      · have := second 0; rw [b2_f (show ¬ GR W p h one k 0 from not_not_intro z)] at this; exact this
      · have := second 0; rw [b2_t (show GR W p h one k 0 from z)] at this; exact this
    · rw [b_X5_chance_171, nI_1, ← cnt_f (k := k) (c := c1 W p h one) (fun z => c z.1)]
      refine next (_, _) g3 ⟨fun q hq hb => i1 q ?_ hb, F3, i3, i4⟩
      have : q ≠ k := fun e => by subst e; exact c hb
      omega
  · intro ⟨w1, w2⟩ g3 ⟨i1, F3, i3, i4⟩
    have hT3 := XT_fr (fr_2A F3) hXT
    show Ok (ev none (d + 4) mm_X5_chance 29 [.ref 23, .int (nI one), .int x2, .int (nI (TT p h one)), .int (nI (pop (TT p h one)) - 1), .ref 15, .long (lO (2 ^ cnt p (c1 W p h one))), .null, .int (nI p), w1, w2] [] g3) _
    rw [b_X5_chance_29, hT3.2.1, m_if_neg (nI_nlt (Nat.le_refl _) (by omega))]
    have hnb : ¬ bad W p h one := fun ⟨q, z1, z2, z3⟩ => i1 q z1 z2 z3
    refine ok_if (fun z => ok_some ⟨?_, fr_trans (fr_2A F1) (fr_2A F3)⟩) (fun z => ok_some ⟨?_, fr_trans (fr_2A F1) (fr_2A F3)⟩)
    · unfold oAns; rw [if_neg hnb, if_pos z]
    · unfold oAns; rw [if_neg hnb, if_neg z]
