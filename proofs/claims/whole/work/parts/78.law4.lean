/-! LAW (4): operands that open -/
theorem xo_open {L : Nat} {b : Nat → Nat} {i o : Nat} {l : List TS} {g : mG} (h : TXS L b i l g) (hc : tch L b i = 33 ∨ tch L b i = 45 ∨ tch L b i = 40) (ho : o ≤ 6) (d : Nat) {R : TR} (h6 : o = 6 → TXQ L b g l R (some (.int 0)) g) (hlt : o < 6 → Ok (ev none (d + 1) mm_X8_readOpened 26 [.ref 16, .int (tlc L b i), .int (nI o)] [] g) (fun r g2 => (r = some (.int 0) ∨ r = some (.int 1)) ∧ TXQ L b g l R r g2)) : Ok (ev none (d + 2) mm_X8_readOperand 0 [.ref 16, .int (nI o), .null, .null] [] g) (TXQ L b g l R) := by
  have hb := ttp_b h.1 i
  have hd : ¬ tdg (tch L b i) := fun z => by unfold tdg at z; omega
  have hn : ∀ k, k < 6 → tch L b i ≠ nmL k := fun k hk e => by
    have := nmL_98 k hk
    omega
  rw [xo_start h, m_if_neg hd, x_noname hb (d + 1) g (nI o) hn 6 0 (by omega), b_X8_readOpened_0]
  by_cases c6 : o < 6
  · rw [m_if_pos (show nI o < 6 from nI_lt (b := 6) c6 (by omega))]
    have to26 : m_if (tlc L b i = 40) (ev none (d + 1) mm_X8_readOpened 26 [.ref 16, .int (tlc L b i), .int (nI o)] [] g) (m_if (tlc L b i = 33) (ev none (d + 1) mm_X8_readOpened 26 [.ref 16, .int (tlc L b i), .int (nI o)] [] g) (m_if (tlc L b i = 45) (ev none (d + 1) mm_X8_readOpened 26 [.ref 16, .int (tlc L b i), .int (nI o)] [] g) (some (some (Value.int 0), g)))) = ev none (d + 1) mm_X8_readOpened 26 [.ref 16, .int (tlc L b i), .int (nI o)] [] g := by
      rcases hc with e | e | e
      · rw [m_if_pos (c := tlc L b i = 33) (show tlc L b i = 33 from (tlc_eq (c := 33) hb (by omega) (by omega)).mpr e), mi_same]
      · rw [m_if_pos (c := tlc L b i = 45) (show tlc L b i = 45 from (tlc_eq (c := 45) hb (by omega) (by omega)).mpr e), mi_same, mi_same]
      · rw [m_if_pos (c := tlc L b i = 40) (show tlc L b i = 40 from (tlc_eq (c := 40) hb (by omega) (by omega)).mpr e)]
    rw [to26]
    refine ok_bnd (hlt c6) ?_
    intro r g2 ⟨hr, q⟩
    rcases hr with hr | hr
    · subst hr
      rw [mp_some, b_X8_readOperand_66, if_pos (by decide)]
      exact ok_some q
    · subst hr
      rw [mp_some, b_X8_readOperand_66, if_pos (by decide)]
      exact ok_some q
  · have e6 : o = 6 := by omega
    rw [m_if_neg (show ¬ nI o < 6 by rw [e6]; decide), mb_some, mp_some, b_X8_readOperand_66, if_pos (by decide)]
    exact ok_some (h6 e6)
theorem t_as {l a : List TS} {s : TS} : l ++ (a ++ [s]) = (l ++ a) ++ [s] := (List.append_assoc l a [s]).symm
theorem jo_un {L : Nat} {b : Nat → Nat} {o i c : Nat} (ho : o ≤ 6) (hc : (tch L b i = 33 ∧ c = 3) ∨ (tch L b i = 45 ∧ c = 4)) (hs : o < 6 → ∀ i, i ≤ L → JO L b (o + 1) i) : JO L b o i := by
  have hi : i < L := tch_L (L := L) (b := b) (by omega)
  have hc3 : tch L b i = 33 ∨ tch L b i = 45 ∨ tch L b i = 40 := by omega
  have hn : ∀ k, k < 6 → tch L b i ≠ nmL k := fun k hk e => by
    have := nmL_98 k hk
    omega
  have to46 : ∀ d g l, TMS L b i o l g → ev none (d + 1) mm_X12_operand 0 [.ref 55, .null] [] g = m_bnd (ev none d mm_X12_opens 0 [.ref 55] [] g) (fun r g2 => ev none (d + 1) mm_X12_operand 50 [.ref 55, .int (tlm L b i)] (m_psh r []) g2) := by
    intro d g l h
    rw [mo_start h hn]
    rcases hc with ⟨e, _⟩ | ⟨e, _⟩
    · rw [m_if_pos e, b_X12_operand_46]
    · rw [m_if_pos (c := tch L b i = 45) e, mi_same, b_X12_operand_46]
  by_cases c6 : o < 6
  · obtain ⟨R1, w1, x1, m1⟩ := hs c6 (i + 1) (by omega)
    have x26 : ∀ d g l, TXS L b i l g → ev none (d + 1) mm_X8_readOpened 26 [.ref 16, .int (tlc L b i), .int (nI o)] [] g = m_bnd (ev none d mm_X8_readOperand 0 [.ref 16, .int (nI (o + 1)), .null, .null] [] (m_s1 g 16 3 (g.1 16 3 + 1))) (fun r g2 => ev none (d + 1) mm_X8_readOpened 83 [.ref 16, .int (tlc L b i), .int (nI o)] (m_psh r []) g2) := by
      intro d g l h
      rw [b_X8_readOpened_26, m_if_neg (show ¬ tlc L b i = 40 from fun e => by
        have := (tlc_eq (c := 40) (ttp_b h.1 i) (by omega) (by omega)).mp e
        omega), nI_1]
    have x83 : ∀ d g, (∀ j, j < L → b j < 256) → ev none (d + 1) mm_X8_readOpened 83 [.ref 16, .int (tlc L b i), .int (nI o)] [.int 1] g = m_bnd (ev none d mm_X8_write 0 [.ref 16, .int (tcc (c, 0))] [] g) (fun r g2 => ev none (d + 1) mm_X8_readOpened 105 [.ref 16, .int (tlc L b i), .int (nI o)] (m_psh r []) g2) := by
      intro d g hb
      rw [b_X8_readOpened_83, m_if_neg (by decide)]
      rcases hc with ⟨e, e2⟩ | ⟨e, e2⟩
      · rw [m_if_pos (show tlc L b i = 33 from (tlc_eq (c := 33) (hb i) (by omega) (by omega)).mpr e), b_X8_readOpened_102, e2]; rfl
      · rw [m_if_neg (show ¬ tlc L b i = 33 from fun z => by
          have := (tlc_eq (c := 33) (hb i) (by omega) (by omega)).mp z
          omega), b_X8_readOpened_102, e2]; rfl
    have m58 : ∀ d g, (∀ j, j < L → b j < 256) → ev none (d + 1) mm_X12_operand 58 [.ref 55, .int (tlm L b i)] [] g = m_bnd (ev none d mm_X12_addStep 0 [.ref 55, .int (nI c), .int (nI 0)] [] (m_s1 g 55 26 (g.1 55 26 - 1))) (fun r g2 => ev none (d + 1) mm_X12_operand 84 [.ref 55, .int (tlm L b i)] (m_psh r []) g2) := by
      intro d g hb
      rw [b_X12_operand_58]
      rcases hc with ⟨e, e2⟩ | ⟨e, e2⟩
      · rw [m_if_pos (show tlm L b i = 33 from (tlm_eq (c := 33) (hb i) (by omega) (by omega)).mpr e), b_X12_operand_80, e2]; rfl
      · rw [m_if_neg (show ¬ tlm L b i = 33 from fun z => by
          have := (tlm_eq (c := 33) (hb i) (by omega) (by omega)).mp z
          omega), b_X12_operand_80, e2]; rfl
    have hc128 : c < 128 := by omega
    match R1, w1, x1, m1 with
    | (j, some e), w1, x1, m1 =>
      obtain ⟨w2, w3, w4, w5⟩ := w1
      have hlen : (e ++ [(c, 0)] : List TS).length = e.length + 1 := t_len
      refine ⟨(j, some (e ++ [(c, 0)])), ⟨by omega, w3, by rw [hlen]; omega, tok_un (by omega) w5⟩, ?_, ?_⟩
      · intro d g l dd hl h
        obtain ⟨d, rfl⟩ : ∃ e, d = e + 2 := ⟨d - 2, by omega⟩
        have h120 := h.1.1
        refine xo_open h hc3 ho d (fun z => absurd z (by omega)) (fun _ => ?_)
        rw [x26 d g l h]
        obtain ⟨q1, q2⟩ := x_on h hi
        refine ok_bnd (x1 d _ l (by omega) (by omega) q1) ?_
        intro r g3 ⟨hr, q3, q4⟩
        subst hr
        rw [mp_some, x83 d g3 (ttp_b h.1)]
        have hl2 : (l ++ e).length < 128 := by rw [List.length_append]; omega
        refine ok_bnd (x_write q3 hl2 d (c, 0) _ rfl) ?_
        intro r g4 ⟨hr, q5, q6⟩
        subst hr
        rw [mp_none, b_X8_readOpened_105]
        refine ok_some ⟨Or.inr rfl, rfl, ?_, fr_trans q2 (fr_trans q4 q6)⟩
        rw [← t_as] at q5
        exact q5
      · intro d g l dd hl h
        obtain ⟨d, rfl⟩ : ∃ e, d = e + 2 := ⟨d - 2, by omega⟩
        have h120 := h.1.1
        rw [to46 (d + 1) g l h]
        refine ok_bnd (m_opens h hi c6 d) ?_
        intro r g2 ⟨hr, q1, q2⟩
        subst hr
        rw [mp_some, b_X12_operand_50, m_if_neg (by decide)]
        refine ok_bnd (m1 (d + 1) g2 l (by omega) (by omega) q1) ?_
        intro r g3 ⟨hr, q3, q4⟩
        subst hr
        rw [mp_none, m58 (d + 1) g3 (ttp_b h.1)]
        obtain ⟨q5, q6⟩ := m_close q3
        have hl2 : (l ++ e).length < 130 := by rw [List.length_append]; omega
        refine ok_bnd (m_addStep q5 hl2 (d + 1) (c, 0) hc128) ?_
        intro r g4 ⟨hr, q7, q8⟩
        subst hr
        rw [mp_none, b_X12_operand_84, b_X12_operand_154]
        refine ok_some ⟨rfl, ?_, fr_trans q2 (fr_trans q4 (fr_trans q6 q8))⟩
        rw [← t_as] at q7
        exact q7
    | (f, none), w1, x1, m1 =>
      obtain ⟨w2, w3⟩ := w1
      refine ⟨(f, none), ⟨by omega, w3⟩, ?_, ?_⟩
      · intro d g l dd hl h
        obtain ⟨d, rfl⟩ : ∃ e, d = e + 2 := ⟨d - 2, by omega⟩
        have h120 := h.1.1
        refine xo_open h hc3 ho d (fun z => absurd z (by omega)) (fun _ => ?_)
        rw [x26 d g l h]
        obtain ⟨q1, q2⟩ := x_on h hi
        refine ok_bnd (x1 d _ l (by omega) (by omega) q1) ?_
        intro r g3 ⟨hr, q3, q4⟩
        rcases hr with hr | ⟨hr, hdg⟩
        · subst hr
          rw [mp_some, b_X8_readOpened_83, m_if_pos rfl]
          exact ok_some ⟨Or.inl rfl, Or.inl rfl, q3, fr_trans q2 q4⟩
        · subst hr
          rw [mp_some, x83 d g3 (ttp_b h.1)]
          refine ok_bnd (x_writeF q3 d _) ?_
          intro r g4 ⟨hr, q5, q6⟩
          subst hr
          rw [mp_none, b_X8_readOpened_105]
          exact ok_some ⟨Or.inr rfl, Or.inr ⟨rfl, hdg⟩, q5, fr_trans q2 (fr_trans q4 q6)⟩
      · intro d g l dd hl h
        obtain ⟨d, rfl⟩ : ∃ e, d = e + 2 := ⟨d - 2, by omega⟩
        have h120 := h.1.1
        rw [to46 (d + 1) g l h]
        refine ok_bnd (m_opens h hi c6 d) ?_
        intro r g2 ⟨hr, q1, q2⟩
        subst hr
        rw [mp_some, b_X12_operand_50, m_if_neg (by decide)]
        refine ok_bnd (m1 (d + 1) g2 l (by omega) (by omega) q1) ?_
        intro r g3 ⟨hr, q3, q4⟩
        subst hr
        rw [mp_none, m58 (d + 1) g3 (ttp_b h.1)]
        obtain ⟨q5, q6⟩ := m_closeF q3 (g3.1 55 26 - 1)
        refine ok_bnd (m_addStepF q5 (by omega) (d + 1) _ _) ?_
        intro r g4 ⟨hr, q7, q8⟩
        subst hr
        rw [mp_none, b_X12_operand_84, b_X12_operand_154]
        exact ok_some ⟨rfl, tmf_le q7 (by omega), fr_trans q2 (fr_trans q4 (fr_trans q6 q8))⟩
  · have e6 : o = 6 := by omega
    subst e6
    refine ⟨(i, none), ⟨by omega, by omega⟩, ?_, ?_⟩
    · intro d g l dd hl h
      obtain ⟨d, rfl⟩ : ∃ e, d = e + 2 := ⟨d - 2, by omega⟩
      have h120 := h.1.1
      exact xo_open h hc3 ho d (fun _ => ⟨Or.inl rfl, txs_f h (by omega), fr_refl⟩) (fun z => absurd z c6)
    · intro d g l dd hl h
      obtain ⟨d, rfl⟩ : ∃ e, d = e + 2 := ⟨d - 2, by omega⟩
      have h120 := h.1.1
      rw [to46 (d + 1) g l h]
      refine ok_bnd (m_opensF h d) ?_
      intro r g2 ⟨hr, q1, q2⟩
      subst hr
      rw [mp_some, b_X12_operand_50, m_if_pos rfl]
      exact ok_some ⟨rfl, tmf_le q1 (by omega), q2⟩
theorem jo_par {L : Nat} {b : Nat → Nat} {o i : Nat} (ho : o ≤ 6) (hc : tch L b i = 40) (hs : o < 6 → ∀ i, i ≤ L → JC L b 0 (o + 1) i) : JO L b o i := by
  have hi : i < L := tch_L (L := L) (b := b) (by omega)
  have hc3 : tch L b i = 33 ∨ tch L b i = 45 ∨ tch L b i = 40 := by omega
  have hn : ∀ k, k < 6 → tch L b i ≠ nmL k := fun k hk e => by
    have := nmL_98 k hk
    omega
  have mst : ∀ d g l, TMS L b i o l g → ev none (d + 1) mm_X12_operand 0 [.ref 55, .null] [] g = m_bnd (ev none d mm_X12_opens 0 [.ref 55] [] g) (fun r g2 => ev none (d + 1) mm_X12_operand 97 [.ref 55, .int (tlm L b i)] (m_psh r []) g2) := by
    intro d g l h
    rw [mo_start h hn, m_if_neg (by omega), m_if_neg (by omega), m_if_pos hc]
  by_cases c6 : o < 6
  · obtain ⟨R1, w1, x1, m1⟩ := hs c6 (i + 1) (by omega)
    have x26 : ∀ d g l, TXS L b i l g → ev none (d + 1) mm_X8_readOpened 26 [.ref 16, .int (tlc L b i), .int (nI o)] [] g = m_bnd (ev none d mm_X8_readChain 0 [.ref 16, .int (nI 0), .int (nI (o + 1)), .null, .null, .null] [] (m_s1 g 16 3 (g.1 16 3 + 1))) (fun r g2 => ev none (d + 1) mm_X8_readOpened 50 [.ref 16, .int (tlc L b i), .int (nI o)] (m_psh r []) g2) := by
      intro d g l h
      rw [b_X8_readOpened_26, m_if_pos (show tlc L b i = 40 from (tlc_eq (c := 40) (ttp_b h.1 i) (by omega) (by omega)).mpr hc), nI_1]
      rfl
    match R1, w1, x1, m1 with
    | (j, some e), w1, x1, m1 =>
      obtain ⟨w2, w3, w4, w5⟩ := w1
      by_cases c41 : tch L b j = 41
      · have hj : j < L := tch_L (L := L) (b := b) (by omega)
        refine ⟨(j + 1, some e), ⟨by omega, by omega, by omega, w5⟩, ?_, ?_⟩
        · intro d g l dd hl h
          obtain ⟨d, rfl⟩ : ∃ e, d = e + 2 := ⟨d - 2, by omega⟩
          refine xo_open h hc3 ho d (fun z => absurd z (by omega)) (fun _ => ?_)
          rw [x26 d g l h]
          obtain ⟨q1, q2⟩ := x_on h hi
          refine ok_bnd (x1 d _ l (by omega) (by omega) q1) ?_
          intro r g3 ⟨hr, q3, q4⟩
          subst hr
          rw [mp_some, b_X8_readOpened_50, m_if_neg (by decide), v_letter q3.1 q3.2.1 q3.2.2.1, mb_some, mp_some, b_X8_readOpened_57, m_if_pos (show tlc L b j = 41 from (tlc_eq (c := 41) (ttp_b h.1 j) (by omega) (by omega)).mpr c41)]
          obtain ⟨q5, q6⟩ := x_on q3 hj
          exact ok_some ⟨Or.inr rfl, rfl, q5, fr_trans q2 (fr_trans q4 q6)⟩
        · intro d g l dd hl h
          obtain ⟨d, rfl⟩ : ∃ e, d = e + 2 := ⟨d - 2, by omega⟩
          rw [mst (d + 1) g l h]
          refine ok_bnd (m_opens h hi c6 d) ?_
          intro r g2 ⟨hr, q1, q2⟩
          subst hr
          rw [mp_some, b_X12_operand_97, m_if_neg (by decide)]
          refine ok_bnd (m1 (d + 1) g2 l (by omega) (by omega) q1) ?_
          intro r g3 ⟨hr, q3, q4⟩
          subst hr
          rw [mp_none, b_X12_operand_105, q3.2.2.2.1, m_if_pos tm1, v_look q3.1 q3.2.1 q3.2.2.1, mb_some, mp_some, b_X12_operand_117, m_if_pos (show tlm L b j = 41 from (tlm_eq (c := 41) (ttp_b h.1 j) (by omega) (by omega)).mpr c41), b_X12_operand_154]
          obtain ⟨q5, q6⟩ := m_on q3 hj
          obtain ⟨q7, q8⟩ := m_close q5
          exact ok_some ⟨rfl, q7, fr_trans q2 (fr_trans q4 (fr_trans q6 q8))⟩
      · refine ⟨(j, none), ⟨by omega, w3⟩, ?_, ?_⟩
        · intro d g l dd hl h
          obtain ⟨d, rfl⟩ : ∃ e, d = e + 2 := ⟨d - 2, by omega⟩
          have h120 := h.1.1
          refine xo_open h hc3 ho d (fun z => absurd z (by omega)) (fun _ => ?_)
          rw [x26 d g l h]
          obtain ⟨q1, q2⟩ := x_on h hi
          refine ok_bnd (x1 d _ l (by omega) (by omega) q1) ?_
          intro r g3 ⟨hr, q3, q4⟩
          subst hr
          rw [mp_some, b_X8_readOpened_50, m_if_neg (by decide), v_letter q3.1 q3.2.1 q3.2.2.1, mb_some, mp_some, b_X8_readOpened_57, m_if_neg (show ¬ tlc L b j = 41 from fun z => c41 ((tlc_eq (c := 41) (ttp_b h.1 j) (by omega) (by omega)).mp z))]
          exact ok_some ⟨Or.inl rfl, Or.inl rfl, txs_f q3 (by rw [List.length_append]; omega), fr_trans q2 q4⟩
        · intro d g l dd hl h
          obtain ⟨d, rfl⟩ : ∃ e, d = e + 2 := ⟨d - 2, by omega⟩
          rw [mst (d + 1) g l h]
          refine ok_bnd (m_opens h hi c6 d) ?_
          intro r g2 ⟨hr, q1, q2⟩
          subst hr
          rw [mp_some, b_X12_operand_97, m_if_neg (by decide)]
          refine ok_bnd (m1 (d + 1) g2 l (by omega) (by omega) q1) ?_
          intro r g3 ⟨hr, q3, q4⟩
          subst hr
          rw [mp_none, b_X12_operand_105, q3.2.2.2.1, m_if_pos tm1, v_look q3.1 q3.2.1 q3.2.2.1, mb_some, mp_some, b_X12_operand_117, m_if_neg (show ¬ tlm L b j = 41 from fun z => c41 ((tlm_eq (c := 41) (ttp_b h.1 j) (by omega) (by omega)).mp z))]
          refine ok_bnd (m_wrong q3 (d + 1)) ?_
          intro r g4 ⟨hr, q5, q6⟩
          subst hr
          rw [mp_none, b_X12_operand_126]
          exact ok_some ⟨rfl, tmf_le q5 (by rw [List.length_append]; omega), fr_trans q2 (fr_trans q4 q6)⟩
    | (f, none), w1, x1, m1 =>
      obtain ⟨w2, w3⟩ := w1
      refine ⟨(f, none), ⟨by omega, w3⟩, ?_, ?_⟩
      · intro d g l dd hl h
        obtain ⟨d, rfl⟩ : ∃ e, d = e + 2 := ⟨d - 2, by omega⟩
        refine xo_open h hc3 ho d (fun z => absurd z (by omega)) (fun _ => ?_)
        rw [x26 d g l h]
        obtain ⟨q1, q2⟩ := x_on h hi
        refine ok_bnd (x1 d _ l (by omega) (by omega) q1) ?_
        intro r g3 ⟨hr, q3, q4⟩
        rcases hr with hr | ⟨hr, hdg⟩
        · subst hr
          rw [mp_some, b_X8_readOpened_50, m_if_pos rfl]
          exact ok_some ⟨Or.inl rfl, Or.inl rfl, q3, fr_trans q2 q4⟩
        · subst hr
          rw [mp_some, b_X8_readOpened_50, m_if_neg (by decide), v_letter q3.1 q3.2.1 q3.2.2.1, mb_some, mp_some, b_X8_readOpened_57, m_if_neg (show ¬ tlc L b f = 41 from fun z => by
            have := (tlc_eq (c := 41) (ttp_b h.1 f) (by omega) (by omega)).mp z
            unfold tdg at hdg
            omega)]
          exact ok_some ⟨Or.inl rfl, Or.inl rfl, q3, fr_trans q2 q4⟩
      · intro d g l dd hl h
        obtain ⟨d, rfl⟩ : ∃ e, d = e + 2 := ⟨d - 2, by omega⟩
        have h120 := h.1.1
        rw [mst (d + 1) g l h]
        refine ok_bnd (m_opens h hi c6 d) ?_
        intro r g2 ⟨hr, q1, q2⟩
        subst hr
        rw [mp_some, b_X12_operand_97, m_if_neg (by decide)]
        refine ok_bnd (m1 (d + 1) g2 l (by omega) (by omega) q1) ?_
        intro r g3 ⟨hr, q3, q4⟩
        subst hr
        rw [mp_none, b_X12_operand_105, q3.2.2.2.1, m_if_neg (nI_pos (n := f) (by omega))]
        exact ok_some ⟨rfl, tmf_le q3 (by omega), fr_trans q2 q4⟩
  · have e6 : o = 6 := by omega
    subst e6
    refine ⟨(i, none), ⟨by omega, by omega⟩, ?_, ?_⟩
    · intro d g l dd hl h
      obtain ⟨d, rfl⟩ : ∃ e, d = e + 2 := ⟨d - 2, by omega⟩
      have h120 := h.1.1
      exact xo_open h hc3 ho d (fun _ => ⟨Or.inl rfl, txs_f h (by omega), fr_refl⟩) (fun z => absurd z c6)
    · intro d g l dd hl h
      obtain ⟨d, rfl⟩ : ∃ e, d = e + 2 := ⟨d - 2, by omega⟩
      rw [mst (d + 1) g l h]
      refine ok_bnd (m_opensF h d) ?_
      intro r g2 ⟨hr, q1, q2⟩
      subst hr
      rw [mp_some, b_X12_operand_97, m_if_pos rfl]
      exact ok_some ⟨rfl, tmf_le q1 (by omega), q2⟩
theorem jo_all {L : Nat} {b : Nat → Nat} {o : Nat} (ho : o ≤ 6) (hs : o < 6 → ∀ i, i ≤ L → JO L b (o + 1) i ∧ JC L b 0 (o + 1) i) : ∀ i, i ≤ L → JO L b o i := by
  intro i hi
  by_cases hd : tdg (tch L b i)
  · exact jo_num hi hd
  · by_cases hk : ∃ k, k < 6 ∧ tch L b i = nmL k
    · obtain ⟨k, h1, h2⟩ := hk
      exact jo_name h1 h2
    · by_cases h33 : tch L b i = 33
      · exact jo_un ho (Or.inl ⟨h33, rfl⟩) (fun z j hj => (hs z j hj).1)
      · by_cases h45 : tch L b i = 45
        · exact jo_un ho (Or.inr ⟨h45, rfl⟩) (fun z j hj => (hs z j hj).1)
        · by_cases h40 : tch L b i = 40
          · exact jo_par ho h40 (fun z j hj => (hs z j hj).2)
          · exact jo_none hi hd (fun k h1 h2 => hk ⟨k, h1, h2⟩) h33 h45 h40
