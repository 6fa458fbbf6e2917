/-! LAW (3): an operand, read by both -/
noncomputable def EM (lv d : Nat) (g : mG) : Option (Option Value × mG) := if lv = 0 then ev none d mm_X12_either 0 [.ref 55] [] g else if lv = 1 then ev none d mm_X12_both 0 [.ref 55] [] g else if lv = 2 then ev none d mm_X12_compared 0 [.ref 55, .null] [] g else if lv = 3 then ev none d mm_X12_sum 0 [.ref 55, .null] [] g else if lv = 4 then ev none d mm_X12_product 0 [.ref 55, .null] [] g else ev none d mm_X12_operand 0 [.ref 55, .null] [] g
def JO (L : Nat) (b : Nat → Nat) (o i : Nat) : Prop := ∃ R, TRW L i R ∧ (∀ d g l, 10 * (6 - o) + 6 ≤ d → l.length ≤ i → TXS L b i l g → Ok (ev none d mm_X8_readOperand 0 [.ref 16, .int (nI o), .null, .null] [] g) (TXQ L b g l R)) ∧ (∀ d g l, 10 * (6 - o) + 6 ≤ d → l.length ≤ i → TMS L b i o l g → Ok (ev none d mm_X12_operand 0 [.ref 55, .null] [] g) (TMQ L b o i g l R))
def JC (L : Nat) (b : Nat → Nat) (lv o i : Nat) : Prop := ∃ R, TRW L i R ∧ (∀ d g l, 10 * (6 - o) + 13 - lv ≤ d → l.length ≤ i → TXS L b i l g → Ok (ev none d mm_X8_readChain 0 [.ref 16, .int (nI lv), .int (nI o), .null, .null, .null] [] g) (TXQ L b g l R)) ∧ (∀ d g l, 10 * (6 - o) + 13 - lv ≤ d → l.length ≤ i → TMS L b i o l g → Ok (EM lv d g) (TMQ L b o i g l R))
theorem txs_f {L : Nat} {b : Nat → Nat} {i : Nat} {l : List TS} {g : mG} (h : TXS L b i l g) (hl : l.length ≤ 128) : TXF L b i g := ⟨h.1, h.2.1, h.2.2.1, l.length, hl, h.2.2.2.1⟩
theorem tmf_le {L : Nat} {b : Nat → Nat} {f n m : Nat} {g : mG} (h : TMF L b f n g) (hm : n ≤ m) : TMF L b f m g := by
  obtain ⟨h1, h2, h3, h4, k, h5, h6⟩ := h
  exact ⟨h1, h2, h3, h4, k, by omega, h6⟩
theorem xo_start {L : Nat} {b : Nat → Nat} {i : Nat} {l : List TS} {g : mG} (h : TXS L b i l g) (d : Nat) (x1 : Int32) : ev none (d + 1) mm_X8_readOperand 0 [.ref 16, .int x1, .null, .null] [] g = m_if (tdg (tch L b i)) (m_bnd (ev none d mm_X8_readNumber 0 [.ref 16, .null, .null] [] g) (fun r g2 => ev none (d + 1) mm_X8_readOperand 16 [.ref 16, .int x1, .int (tlc L b i), .null] (m_psh r []) g2)) (ev none (d + 1) mm_X8_readOperand 20 [.ref 16, .int x1, .int (tlc L b i), .int (nI 0)] [] g) := by
  rw [b_X8_readOperand_0, v_letter h.1 h.2.1 h.2.2.1, mb_some, mp_some, b_X8_readOperand_4, v_isDigit _ (ttp_b h.1 i), mb_some, mp_some, b_X8_readOperand_9, mi_b2]
  rfl
theorem mo_start {L : Nat} {b : Nat → Nat} {i o : Nat} {l : List TS} {g : mG} (h : TMS L b i o l g) (hc : ∀ k, k < 6 → tch L b i ≠ nmL k) (d : Nat) : ev none (d + 1) mm_X12_operand 0 [.ref 55, .null] [] g = m_if (tch L b i = 33) (ev none (d + 1) mm_X12_operand 46 [.ref 55, .int (tlm L b i)] [] g) (m_if (tch L b i = 45) (ev none (d + 1) mm_X12_operand 46 [.ref 55, .int (tlm L b i)] [] g) (m_if (tch L b i = 40) (m_bnd (ev none d mm_X12_opens 0 [.ref 55] [] g) (fun r g2 => ev none (d + 1) mm_X12_operand 97 [.ref 55, .int (tlm L b i)] (m_psh r []) g2)) (m_bnd (ev none d mm_X12_figure 0 [.ref 55, .null, .null] [] g) (fun r g2 => ev none (d + 1) mm_X12_operand 154 [.ref 55, .int (tlm L b i)] (m_psh r []) g2)))) := by
  have hb := ttp_b h.1 i
  rw [b_X12_operand_0, v_look h.1 h.2.1 h.2.2.1, mb_some, mp_some, b_X12_operand_4, v_nonameM hb _ _ hc, mb_some, mp_some, b_X12_operand_9, m_if_pos tm1, mi_c (show tlm L b i = 33 ↔ tch L b i = 33 from tlm_eq (c := 33) hb (by omega) (by omega)), mi_c (show tlm L b i = 45 ↔ tch L b i = 45 from tlm_eq (c := 45) hb (by omega) (by omega)), mi_c (show tlm L b i = 40 ↔ tch L b i = 40 from tlm_eq (c := 40) hb (by omega) (by omega))]
theorem nmL_98 : ∀ k, k < 6 → 98 ≤ nmL k := by decide
theorem mo_fig {L : Nat} {b : Nat → Nat} {i o : Nat} {l : List TS} {g : mG} (h : TMS L b i o l g) (hc : ∀ k, k < 6 → tch L b i ≠ nmL k) (h33 : tch L b i ≠ 33) (h45 : tch L b i ≠ 45) (h40 : tch L b i ≠ 40) (d : Nat) {P : mG → Prop} (hf : Ok (ev none d mm_X12_figure 0 [.ref 55, .null, .null] [] g) (fun r g2 => r = none ∧ P g2)) : Ok (ev none (d + 1) mm_X12_operand 0 [.ref 55, .null] [] g) (fun r g2 => r = none ∧ P g2) := by
  rw [mo_start h hc d, m_if_neg h33, m_if_neg h45, m_if_neg h40]
  refine ok_bnd hf ?_
  intro r g2 ⟨hr, q1⟩
  subst hr
  rw [mp_none, b_X12_operand_154]
  exact ok_some ⟨rfl, q1⟩
theorem jo_num {L : Nat} {b : Nat → Nat} {o i : Nat} (hi : i ≤ L) (hd : tdg (tch L b i)) : JO L b o i := by
  obtain ⟨n, v, a1, a2, a3, a4, a5, a6, a7, a8⟩ := t_num L b i 4 0 0 rfl (by decide)
  have n1 : 0 < n := a4 (by omega) hd
  have hd' := hd
  unfold tdg at hd'
  have hn : ∀ k, k < 6 → tch L b i ≠ nmL k := fun k hk e => by
    have := nmL_98 k hk
    omega
  have hj : i + n ≤ L := a6 hi
  have xn : ∀ d g l, TXS L b i l g → l.length < 128 → Ok (ev none (d + 2) mm_X8_readOperand 0 [.ref 16, .int (nI o), .null, .null] [] g) (fun r g2 => r = some (.int 1) ∧ TXS L b (i + n) (l ++ [(1, v)]) g2 ∧ Fr sTP g g2) := by
    intro d g l h hl
    rw [xo_start h, m_if_pos hd, b_X8_readNumber_0]
    refine ok_bnd (P := fun r g2 => r = none ∧ TXS L b (i + n) (l ++ [(1, v)]) g2 ∧ Fr sTP g g2) ?_ ?_
    · refine a7 d g l _ h (fun g2 h2 F => ?_)
      rw [b_X8_readNumber_48]
      refine ok_bnd (x_write h2 hl d (1, v) (nI v) rfl) ?_
      intro r g3 ⟨hr, q1, q2⟩
      subst hr
      rw [mp_none, b_X8_readNumber_53]
      exact ok_some ⟨rfl, q1, fr_trans F q2⟩
    · intro r g2 ⟨hr, q1, q2⟩
      subst hr
      rw [mp_none, b_X8_readOperand_16]
      exact ok_some ⟨rfl, q1, q2⟩
  by_cases c : tdg (tch L b (i + n))
  · refine ⟨(i + n, none), ⟨by omega, hj⟩, ?_, ?_⟩
    · intro d g l dd hl h
      obtain ⟨d, rfl⟩ : ∃ e, d = e + 2 := ⟨d - 2, by omega⟩
      have h120 := h.1.1
      refine ok_mono (xn d g l h (by omega)) ?_
      intro r g2 ⟨q1, q2, q3⟩
      refine ⟨Or.inr ⟨q1, c⟩, txs_f q2 ?_, q3⟩
      rw [List.length_append]
      show l.length + 1 ≤ 128
      omega
    · intro d g l dd hl h
      obtain ⟨d, rfl⟩ : ∃ e, d = e + 2 := ⟨d - 2, by omega⟩
      have h120 := h.1.1
      refine mo_fig h hn (by omega) (by omega) (by omega) (d + 1) ?_
      rw [b_X12_figure_0]
      refine a8 d o g l _ h (fun g2 h2 F => ?_)
      rw [b_X12_figure_52, m_if_neg (nI_ne0 n1 (by omega)), v_look h2.1 h2.2.1 h2.2.2.1, mb_some, mp_some, b_X12_figure_60, v_isDigM _ (ttp_b h2.1 _), mb_some, mp_some, b_X12_figure_67, mi_b2, m_if_pos c, b_X12_figure_70]
      refine ok_bnd (m_wrong h2 d) ?_
      intro r g3 ⟨hr, q1, q2⟩
      subst hr
      rw [mp_none, b_X12_figure_74]
      refine ok_bnd (m_addStepF q1 (by omega) d 1 (nI v)) ?_
      intro r g4 ⟨hr, q3, q4⟩
      subst hr
      rw [mp_none, b_X12_figure_80]
      exact ok_some ⟨rfl, tmf_le q3 (by omega), fr_trans F (fr_trans q2 q4)⟩
  · refine ⟨(i + n, some [(1, v)]), ⟨by omega, hj, ?_, tok_num a3⟩, ?_, ?_⟩
    · show i + 1 ≤ i + n
      omega
    · intro d g l dd hl h
      obtain ⟨d, rfl⟩ : ∃ e, d = e + 2 := ⟨d - 2, by omega⟩
      have h120 := h.1.1
      exact xn d g l h (by omega)
    · intro d g l dd hl h
      obtain ⟨d, rfl⟩ : ∃ e, d = e + 2 := ⟨d - 2, by omega⟩
      have h120 := h.1.1
      refine mo_fig h hn (by omega) (by omega) (by omega) (d + 1) ?_
      rw [b_X12_figure_0]
      refine a8 d o g l _ h (fun g2 h2 F => ?_)
      rw [b_X12_figure_52, m_if_neg (nI_ne0 n1 (by omega)), v_look h2.1 h2.2.1 h2.2.2.1, mb_some, mp_some, b_X12_figure_60, v_isDigM _ (ttp_b h2.1 _), mb_some, mp_some, b_X12_figure_67, mi_b2, m_if_neg c, b_X12_figure_74]
      refine ok_bnd (m_addStep h2 (by omega) d (1, v) (by show 1 < 128; omega)) ?_
      intro r g4 ⟨hr, q3, q4⟩
      subst hr
      rw [mp_none, b_X12_figure_80]
      exact ok_some ⟨rfl, q3, fr_trans F q4⟩
theorem jo_name {L : Nat} {b : Nat → Nat} {o i k : Nat} (hk : k < 6) (hc : tch L b i = nmL k) : JO L b o i := by
  have k98 := nmL_98 k hk
  have hi : i < L := tch_L (L := L) (b := b) (by omega)
  refine ⟨(i + 1, some [(2, k)]), ⟨by omega, by omega, ?_, tok_nam hk⟩, ?_, ?_⟩
  · show i + 1 ≤ i + 1
    omega
  · intro d g l dd hl h
    obtain ⟨d, rfl⟩ : ∃ e, d = e + 1 := ⟨d - 1, by omega⟩
    have h120 := h.1.1
    rw [xo_start h, m_if_neg (fun z => by unfold tdg at z; omega), x_name (ttp_b h.1 i) d g (nI o) k hk hc k 0 (by omega)]
    obtain ⟨q1, q2⟩ := x_on h hi
    refine ok_bnd (x_write q1 (by omega) d (2, k) (-1 - nI k) rfl) ?_
    intro r g3 ⟨hr, q3, q4⟩
    subst hr
    rw [mp_none, b_X8_readOperand_52]
    exact ok_some ⟨rfl, q3, fr_trans q2 q4⟩
  · intro d g l dd hl h
    obtain ⟨d, rfl⟩ : ∃ e, d = e + 1 := ⟨d - 1, by omega⟩
    have h120 := h.1.1
    have hb := ttp_b h.1 i
    rw [b_X12_operand_0, v_look h.1 h.2.1 h.2.2.1, mb_some, mp_some, b_X12_operand_4, v_nameM hb _ _ k hk hc, mb_some, mp_some, b_X12_operand_9, m_if_neg (nI_pos (n := k) (by omega)), v_nameM hb _ _ k hk hc, mb_some, mp_some, b_X12_operand_18]
    refine ok_bnd (m_addStep h (by omega) d (2, k) (by show 2 < 128; omega)) ?_
    intro r g3 ⟨hr, q3, q4⟩
    subst hr
    rw [mp_none, b_X12_operand_21, b_X12_operand_154]
    obtain ⟨q1, q2⟩ := m_on q3 hi
    exact ok_some ⟨rfl, q1, fr_trans q4 q2⟩
theorem jo_none {L : Nat} {b : Nat → Nat} {o i : Nat} (hi : i ≤ L) (hd : ¬ tdg (tch L b i)) (hn : ∀ k, k < 6 → tch L b i ≠ nmL k) (h33 : tch L b i ≠ 33) (h45 : tch L b i ≠ 45) (h40 : tch L b i ≠ 40) : JO L b o i := by
  refine ⟨(i, none), ⟨by omega, hi⟩, ?_, ?_⟩
  · intro d g l dd hl h
    obtain ⟨d, rfl⟩ : ∃ e, d = e + 2 := ⟨d - 2, by omega⟩
    have h120 := h.1.1
    have hb := ttp_b h.1 i
    rw [xo_start h, m_if_neg hd, x_noname hb (d + 1) g (nI o) hn 6 0 (by omega), b_X8_readOpened_0, m_if_neg (show ¬ tlc L b i = 40 from fun e => h40 ((tlc_eq (c := 40) hb (by omega) (by omega)).mp e)), m_if_neg (show ¬ tlc L b i = 33 from fun e => h33 ((tlc_eq (c := 33) hb (by omega) (by omega)).mp e)), m_if_neg (show ¬ tlc L b i = 45 from fun e => h45 ((tlc_eq (c := 45) hb (by omega) (by omega)).mp e)), mi_same, mb_some, mp_some, b_X8_readOperand_66, if_pos (by decide)]
    exact ok_some ⟨Or.inl rfl, txs_f h (by omega), fr_refl⟩
  · intro d g l dd hl h
    obtain ⟨d, rfl⟩ : ∃ e, d = e + 2 := ⟨d - 2, by omega⟩
    have h120 := h.1.1
    have hb := ttp_b h.1 i
    refine mo_fig h hn h33 h45 h40 (d + 1) ?_
    rw [b_X12_figure_0, b_X12_figure_4, m_if_pos (by decide), v_look h.1 h.2.1 h.2.2.1, mb_some, mp_some, b_X12_figure_13, v_isDigM _ hb, mb_some, mp_some, b_X12_figure_20, mi_b2, m_if_neg hd, b_X12_figure_52, m_if_pos rfl, b_X12_figure_70]
    refine ok_bnd (m_wrong h d) ?_
    intro r g3 ⟨hr, q1, q2⟩
    subst hr
    rw [mp_none, b_X12_figure_74]
    refine ok_bnd (m_addStepF q1 (by omega) d 1 0) ?_
    intro r g4 ⟨hr, q3, q4⟩
    subst hr
    rw [mp_none, b_X12_figure_80]
    exact ok_some ⟨rfl, tmf_le q3 (by omega), fr_trans q2 q4⟩
