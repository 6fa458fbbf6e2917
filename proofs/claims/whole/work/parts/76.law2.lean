/-! LAW (2): formulas; one letter on; numbers, names -/
def tbo (c : Nat) : Prop := c = 37 ∨ c = 38 ∨ c = 42 ∨ c = 43 ∨ c = 45 ∨ c = 47 ∨ c = 60 ∨ c = 61 ∨ c = 62 ∨ c = 124
/-- steps take a stack of n to one of m -/
def tdq : List TS → Nat → Nat → Prop
  | [], n, m => n = m
  | s :: l, n, m => if s.1 = 1 ∨ s.1 = 2 then tdq l (n + 1) m else if s.1 = 3 ∨ s.1 = 4 then 1 ≤ n ∧ tdq l n m else 2 ≤ n ∧ tdq l (n - 1) m
theorem tdq_ap {l2 : List TS} : ∀ (l1 : List TS) (n k m : Nat), tdq l1 n k → tdq l2 k m → tdq (l1 ++ l2) n m := by
  intro l1
  induction l1 with
  | nil =>
    intro n k m h1 h2
    have e : n = k := h1
    rw [e]
    exact h2
  | cons s l ih =>
    intro n k m h1 h2
    show if s.1 = 1 ∨ s.1 = 2 then tdq (l ++ l2) (n + 1) m else if s.1 = 3 ∨ s.1 = 4 then 1 ≤ n ∧ tdq (l ++ l2) n m else 2 ≤ n ∧ tdq (l ++ l2) (n - 1) m
    have h3 : if s.1 = 1 ∨ s.1 = 2 then tdq l (n + 1) k else if s.1 = 3 ∨ s.1 = 4 then 1 ≤ n ∧ tdq l n k else 2 ≤ n ∧ tdq l (n - 1) k := h1
    by_cases c1 : s.1 = 1 ∨ s.1 = 2
    · rw [if_pos c1] at h3 ⊢
      exact ih _ _ _ h3 h2
    · rw [if_neg c1] at h3 ⊢
      by_cases c2 : s.1 = 3 ∨ s.1 = 4
      · rw [if_pos c2] at h3 ⊢
        exact ⟨h3.1, ih _ _ _ h3.2 h2⟩
      · rw [if_neg c2] at h3 ⊢
        exact ⟨h3.1, ih _ _ _ h3.2 h2⟩
def tsk (s : TS) : Prop := (s.1 = 1 ∧ s.2 < 10000) ∨ (s.1 = 2 ∧ s.2 < 6) ∨ (s.1 = 3 ∧ s.2 = 0) ∨ (s.1 = 4 ∧ s.2 = 0) ∨ (tbo s.1 ∧ s.2 = 0)
/-- a formula, as its steps -/
def tok (e : List TS) : Prop := (∀ n, tdq e n (n + 1)) ∧ ∀ s, s ∈ e → tsk s
theorem tok_num {v : Nat} (h : v < 10000) : tok [(1, v)] := ⟨fun n => by
  show if (1 : Nat) = 1 ∨ (1 : Nat) = 2 then n + 1 = n + 1 else _
  rw [if_pos (Or.inl rfl)], fun s hs => by
  rw [List.mem_singleton] at hs
  subst hs
  exact Or.inl ⟨rfl, h⟩⟩
theorem tok_nam {k : Nat} (h : k < 6) : tok [(2, k)] := ⟨fun n => by
  show if (2 : Nat) = 1 ∨ (2 : Nat) = 2 then n + 1 = n + 1 else _
  rw [if_pos (Or.inr rfl)], fun s hs => by
  rw [List.mem_singleton] at hs
  subst hs
  exact Or.inr (Or.inl ⟨rfl, h⟩)⟩
theorem tok_un {c : Nat} {e : List TS} (hc : c = 3 ∨ c = 4) (h : tok e) : tok (e ++ [(c, 0)]) := ⟨fun n => tdq_ap e n (n + 1) (n + 1) (h.1 n) (by
  show if c = 1 ∨ c = 2 then n + 1 + 1 = n + 1 else if c = 3 ∨ c = 4 then 1 ≤ n + 1 ∧ n + 1 = n + 1 else _
  rw [if_neg (by omega), if_pos hc]
  exact ⟨by omega, rfl⟩), fun s hs => by
  rcases List.mem_append.mp hs with hs | hs
  · exact h.2 s hs
  · rw [List.mem_singleton] at hs
    subst hs
    rcases hc with hc | hc
    · exact Or.inr (Or.inr (Or.inl ⟨hc, rfl⟩))
    · exact Or.inr (Or.inr (Or.inr (Or.inl ⟨hc, rfl⟩)))⟩
theorem tok_bin {c : Nat} {a e : List TS} (hc : tbo c) (h : tok a) (h2 : tok e) : tok ((a ++ e) ++ [(c, 0)]) := ⟨fun n => tdq_ap (a ++ e) n (n + 2) (n + 1) (tdq_ap a n (n + 1) (n + 2) (h.1 n) (h2.1 (n + 1))) (by
  unfold tbo at hc
  show if c = 1 ∨ c = 2 then n + 2 + 1 = n + 1 else if c = 3 ∨ c = 4 then 1 ≤ n + 2 ∧ n + 2 = n + 1 else 2 ≤ n + 2 ∧ n + 2 - 1 = n + 1
  rw [if_neg (by omega), if_neg (by omega)]
  exact ⟨by omega, by omega⟩), fun s hs => by
  rcases List.mem_append.mp hs with hs | hs
  · rcases List.mem_append.mp hs with hs | hs
    · exact h.2 s hs
    · exact h2.2 s hs
  · rw [List.mem_singleton] at hs
    subst hs
    exact Or.inr (Or.inr (Or.inr (Or.inr ⟨hc, rfl⟩)))⟩
/-- how far, and the steps, or none: a fault there -/
abbrev TR := Nat × Option (List TS)
def TXQ (L : Nat) (b : Nat → Nat) (g : mG) (l : List TS) : TR → Option Value → mG → Prop
  | (j, some e), r, g2 => r = some (.int 1) ∧ TXS L b j (l ++ e) g2 ∧ Fr sTP g g2
  | (f, none), r, g2 => (r = some (.int 0) ∨ (r = some (.int 1) ∧ tdg (tch L b f))) ∧ TXF L b f g2 ∧ Fr sTP g g2
def TMQ (L : Nat) (b : Nat → Nat) (o i : Nat) (g : mG) (l : List TS) : TR → Option Value → mG → Prop
  | (j, some e), r, g2 => r = none ∧ TMS L b j o (l ++ e) g2 ∧ Fr sTP g g2
  | (f, none), r, g2 => r = none ∧ TMF L b f (l.length + (f - i) + 1) g2 ∧ Fr sTP g g2
def TRW (L i : Nat) : TR → Prop
  | (j, some e) => i < j ∧ j ≤ L ∧ i + e.length ≤ j ∧ tok e
  | (f, none) => i ≤ f ∧ f ≤ L
theorem x_on {L : Nat} {b : Nat → Nat} {i : Nat} {l : List TS} {g : mG} (h : TXS L b i l g) (hi : i < L) : TXS L b (i + 1) l (m_s1 g 16 3 (g.1 16 3 + 1)) ∧ Fr sTP g (m_s1 g 16 3 (g.1 16 3 + 1)) := by
  obtain ⟨h1, h2, h3, h4, h5⟩ := h
  have F : Fr sTP g (m_s1 g 16 3 (g.1 16 3 + 1)) := fr_s1 fr_refl rfl
  refine ⟨⟨ttp_fr h1 F, by omega, by rw [s1_at, h3, nI_1], by rw [s1_same (by decide)]; exact h4, fun k x hk => by rw [s1_ne (by omega)]; exact h5 k x hk⟩, F⟩
theorem m_on {L : Nat} {b : Nat → Nat} {i o : Nat} {l : List TS} {g : mG} (h : TMS L b i o l g) (hi : i < L) : TMS L b (i + 1) o l (m_s1 g 55 24 (g.1 55 24 + 1)) ∧ Fr sTP g (m_s1 g 55 24 (g.1 55 24 + 1)) := by
  obtain ⟨h1, h2, h3, h4, h5, h6, h7⟩ := h
  have F : Fr sTP g (m_s1 g 55 24 (g.1 55 24 + 1)) := fr_s1 fr_refl rfl
  refine ⟨⟨ttp_fr h1 F, by omega, by rw [s1_at, h3, nI_1], by rw [s1_same (by decide)]; exact h4, by rw [s1_same (by decide)]; exact h5, by rw [s1_same (by decide)]; exact h6, fun k x hk => by rw [s1_ne (by omega), s1_ne (by omega)]; exact h7 k x hk⟩, F⟩
theorem m_close {L : Nat} {b : Nat → Nat} {i o : Nat} {l : List TS} {g : mG} (h : TMS L b i (o + 1) l g) : TMS L b i o l (m_s1 g 55 26 (g.1 55 26 - 1)) ∧ Fr sTP g (m_s1 g 55 26 (g.1 55 26 - 1)) := by
  obtain ⟨h1, h2, h3, h4, h5, h6, h7⟩ := h
  have F : Fr sTP g (m_s1 g 55 26 (g.1 55 26 - 1)) := fr_s1 fr_refl rfl
  refine ⟨⟨ttp_fr h1 F, h2, by rw [s1_same (by decide)]; exact h3, by rw [s1_same (by decide)]; exact h4, by rw [s1_at, h5, nI_pred], by rw [s1_same (by decide)]; exact h6, fun k x hk => by rw [s1_ne (by omega), s1_ne (by omega)]; exact h7 k x hk⟩, F⟩
theorem m_closeF {L : Nat} {b : Nat → Nat} {f n : Nat} {g : mG} (h : TMF L b f n g) (x : Int32) : TMF L b f n (m_s1 g 55 26 x) ∧ Fr sTP g (m_s1 g 55 26 x) := by
  obtain ⟨h1, h2, h3, h4, m, h5, h6⟩ := h
  have F : Fr sTP g (m_s1 g 55 26 x) := fr_s1 fr_refl rfl
  exact ⟨⟨ttp_fr h1 F, h2, by rw [s1_same (by decide)]; exact h3, by rw [s1_same (by decide)]; exact h4, m, h5, by rw [s1_same (by decide)]; exact h6⟩, F⟩
theorem m_opens {L : Nat} {b : Nat → Nat} {i o : Nat} {l : List TS} {g : mG} (h : TMS L b i o l g) (hi : i < L) (ho : o < 6) (d : Nat) : Ok (ev none (d + 1) mm_X12_opens 0 [.ref 55] [] g) (fun r g2 => r = some (.int 1) ∧ TMS L b (i + 1) (o + 1) l g2 ∧ Fr sTP g g2) := by
  obtain ⟨h1, h2, h3, h4, h5, h6, h7⟩ := h
  have n6 : ¬ nI o = 6 := fun e => by
    have := (nI_eq (a := o) (b := 6) (by omega) (by omega)).mp e
    omega
  rw [b_X12_opens_0, h5, m_if_neg n6]
  have F : Fr sTP g (m_s1 (m_s1 g 55 26 (nI o + 1)) 55 24 ((m_s1 g 55 26 (nI o + 1)).1 55 24 + 1)) := fr_s1 (fr_s1 fr_refl rfl) rfl
  refine ok_some ⟨rfl, ⟨ttp_fr h1 F, by omega, ?_, ?_, ?_, ?_, fun k x hk => ?_⟩, F⟩
  · rw [s1_at]
    show g.1 55 24 + 1 = _
    rw [h3, nI_1]
  · rw [s1_same (by decide), s1_same (by decide)]; exact h4
  · rw [s1_same (by decide), s1_at, nI_1]
  · rw [s1_same (by decide), s1_same (by decide)]; exact h6
  · rw [s1_ne (by omega), s1_ne (by omega), s1_ne (by omega), s1_ne (by omega)]; exact h7 k x hk
theorem m_opensF {L : Nat} {b : Nat → Nat} {i : Nat} {l : List TS} {g : mG} (h : TMS L b i 6 l g) (d : Nat) : Ok (ev none (d + 1) mm_X12_opens 0 [.ref 55] [] g) (fun r g2 => r = some (.int 0) ∧ TMF L b i l.length g2 ∧ Fr sTP g g2) := by
  rw [b_X12_opens_0, h.2.2.2.2.1, m_if_pos (show nI 6 = 6 from rfl)]
  refine ok_bnd (m_wrong h d) ?_
  intro r g2 ⟨hr, q1, q2⟩
  subst hr
  rw [mp_none, b_X12_opens_13]
  exact ok_some ⟨rfl, q1, q2⟩
/-- up to four figures, read by both -/
theorem t_num (L : Nat) (b : Nat → Nat) (i : Nat) : ∀ k n v, n + k = 4 → v < 10 ^ n → ∃ n' v', n ≤ n' ∧ n' ≤ 4 ∧ v' < 10000 ∧ (0 < k → tdg (tch L b (i + n)) → n < n') ∧ (n' < 4 → ¬ tdg (tch L b (i + n'))) ∧ (i + n ≤ L → i + n' ≤ L) ∧ (∀ (d : Nat) (g : mG) (l : List TS) (Q : Option Value → mG → Prop), TXS L b (i + n) l g → (∀ g2, TXS L b (i + n') l g2 → Fr sTP g g2 → Ok (ev none (d + 1) mm_X8_readNumber 48 [.ref 16, .int (nI v'), .int (nI n')] [] g2) Q) → Ok (ev none (d + 1) mm_X8_readNumber 4 [.ref 16, .int (nI v), .int (nI n)] [] g) Q) ∧ (∀ (d o : Nat) (g : mG) (l : List TS) (Q : Option Value → mG → Prop), TMS L b (i + n) o l g → (∀ g2, TMS L b (i + n') o l g2 → Fr sTP g g2 → Ok (ev none (d + 1) mm_X12_figure 52 [.ref 55, .int (nI v'), .int (nI n')] [] g2) Q) → Ok (ev none (d + 1) mm_X12_figure 4 [.ref 55, .int (nI v), .int (nI n)] [] g) Q) := by
  intro k
  induction k with
  | zero =>
    intro n v hn hv
    have e : n = 4 := by omega
    subst e
    refine ⟨4, v, by omega, by omega, by omega, fun z => absurd z (by omega), fun z => absurd z (by omega), fun z => z, ?_, ?_⟩
    · intro d g l Q h hq
      rw [b_X8_readNumber_4, m_if_neg (show ¬ nI 4 < 4 by decide)]
      exact hq g h fr_refl
    · intro d o g l Q h hq
      rw [b_X12_figure_4, m_if_neg (show ¬ nI 4 < 4 by decide)]
      exact hq g h fr_refl
  | succ k ih =>
    intro n v hn hv
    by_cases c : tdg (tch L b (i + n))
    · have hL := tdg_L c
      have hc := c
      unfold tdg at hc
      have p10 : 10 ^ (n + 1) = 10 ^ n * 10 := Nat.pow_succ 10 n
      have p4 : 10 ^ n ≤ 10 ^ 4 := Nat.pow_le_pow_right (by omega) (by omega)
      obtain ⟨n', v', a1, a2, a3, a4, a5, a6, a7, a8⟩ := ih (n + 1) (v * 10 + tch L b (i + n) - 48) (by omega) (by rw [p10]; omega)
      refine ⟨n', v', by omega, a2, a3, fun _ _ => by omega, a5, fun _ => a6 (by omega), ?_, ?_⟩
      · intro d g l Q h hq
        have hb := ttp_b h.1 (i + n)
        have ev' : tlc L b (i + n) = nI (tch L b (i + n)) := (tlc_eq hb (by omega) tch_128).mpr rfl
        rw [b_X8_readNumber_4, m_if_pos (show nI n < 4 from nI_lt (b := 4) (by omega) (by omega)), v_letter h.1 h.2.1 h.2.2.1, mb_some, mp_some, b_X8_readNumber_13, v_isDigit _ hb, mb_some, mp_some, b_X8_readNumber_16, mi_b2, m_if_pos c, v_letter h.1 h.2.1 h.2.2.1, mb_some, mp_some, b_X8_readNumber_27, ev', show nI v * 10 = nI (v * 10) from pk_mul v 10, nI_add, show nI (v * 10 + tch L b (i + n)) - 48 = nI (v * 10 + tch L b (i + n) - 48) from pk_sub (b := 48) (by omega), nI_1]
        obtain ⟨q1, q2⟩ := x_on h hL
        exact a7 d _ l Q q1 (fun g2 h2 F => hq g2 h2 (fr_trans q2 F))
      · intro d o g l Q h hq
        have hb := ttp_b h.1 (i + n)
        have ev' : tlm L b (i + n) = nI (tch L b (i + n)) := (tlm_eq hb (by omega) tch_128).mpr rfl
        rw [b_X12_figure_4, m_if_pos (show nI n < 4 from nI_lt (b := 4) (by omega) (by omega)), v_look h.1 h.2.1 h.2.2.1, mb_some, mp_some, b_X12_figure_13, v_isDigM _ hb, mb_some, mp_some, b_X12_figure_20, mi_b2, m_if_pos c, v_look h.1 h.2.1 h.2.2.1, mb_some, mp_some, b_X12_figure_31, ev', show 10 * nI v = nI (v * 10) by rw [show (10 : Int32) = nI 10 from rfl, pk_mul, Nat.mul_comm], nI_add, show nI (v * 10 + tch L b (i + n)) - 48 = nI (v * 10 + tch L b (i + n) - 48) from pk_sub (b := 48) (by omega), nI_1]
        obtain ⟨q1, q2⟩ := m_on h hL
        exact a8 d o _ l Q q1 (fun g2 h2 F => hq g2 h2 (fr_trans q2 F))
    · have p4 : 10 ^ n ≤ 10 ^ 4 := Nat.pow_le_pow_right (by omega) (by omega)
      refine ⟨n, v, by omega, by omega, by omega, fun _ z => absurd z c, fun _ => c, fun z => z, ?_, ?_⟩
      · intro d g l Q h hq
        have hb := ttp_b h.1 (i + n)
        rw [b_X8_readNumber_4, m_if_pos (show nI n < 4 from nI_lt (b := 4) (by omega) (by omega)), v_letter h.1 h.2.1 h.2.2.1, mb_some, mp_some, b_X8_readNumber_13, v_isDigit _ hb, mb_some, mp_some, b_X8_readNumber_16, mi_b2, m_if_neg c]
        exact hq g h fr_refl
      · intro d o g l Q h hq
        have hb := ttp_b h.1 (i + n)
        rw [b_X12_figure_4, m_if_pos (show nI n < 4 from nI_lt (b := 4) (by omega) (by omega)), v_look h.1 h.2.1 h.2.2.1, mb_some, mp_some, b_X12_figure_13, v_isDigM _ hb, mb_some, mp_some, b_X12_figure_20, mi_b2, m_if_neg c]
        exact hq g h fr_refl
def nmL (k : Nat) : Nat := [119, 100, 98, 111, 102, 121].getD k 0
theorem nmL_ok : ∀ k, k < 6 → sa2.getD k 0 = nI (nmL k) ∧ 0 < nmL k ∧ nmL k < 128 := by decide +kernel
theorem nmL_inj : ∀ k, k < 6 → ∀ q, q < 6 → nmL q = nmL k → q = k := by decide
theorem nm_20 {L : Nat} {b : Nat → Nat} {i : Nat} (hb : i < L → b i < 256) (d : Nat) (g : mG) (x1 : Int32) (k : Nat) (hk : k < 6) : ev none (d + 1) mm_X8_readOperand 20 [.ref 16, .int x1, .int (tlc L b i), .int (nI k)] [] g = m_if (tch L b i = nmL k) (m_bnd (ev none d mm_X8_write 0 [.ref 16, .int (-1 - nI k)] [] (m_s1 g 16 3 (g.1 16 3 + 1))) (fun r g2 => ev none (d + 1) mm_X8_readOperand 52 [.ref 16, .int x1, .int (tlc L b i), .int (nI k)] (m_psh r []) g2)) (ev none (d + 1) mm_X8_readOperand 20 [.ref 16, .int x1, .int (tlc L b i), .int (nI (k + 1))] [] g) := by
  obtain ⟨k1, k2, k3⟩ := nmL_ok k hk
  rw [b_X8_readOperand_20, m_if_pos (show nI k < 6 from nI_lt (b := 6) hk (by omega)), mi_nI hk (by omega), pk_cl k (hx := rfl), k1, mi_c (tlc_eq hb k2 k3), nI_1]
theorem x_name {L : Nat} {b : Nat → Nat} {i : Nat} (hb : i < L → b i < 256) (d : Nat) (g : mG) (x1 : Int32) (k : Nat) (hk : k < 6) (hc : tch L b i = nmL k) : ∀ m q, q + m = k → ev none (d + 1) mm_X8_readOperand 20 [.ref 16, .int x1, .int (tlc L b i), .int (nI q)] [] g = m_bnd (ev none d mm_X8_write 0 [.ref 16, .int (-1 - nI k)] [] (m_s1 g 16 3 (g.1 16 3 + 1))) (fun r g2 => ev none (d + 1) mm_X8_readOperand 52 [.ref 16, .int x1, .int (tlc L b i), .int (nI k)] (m_psh r []) g2) := by
  intro m
  induction m with
  | zero =>
    intro q hq
    have e : q = k := by omega
    subst e
    rw [nm_20 hb d g x1 q hk, m_if_pos hc]
  | succ m ih =>
    intro q hq
    rw [nm_20 hb d g x1 q (by omega), m_if_neg (fun z => by
      have := nmL_inj k hk q (by omega) (z.symm.trans hc)
      omega)]
    exact ih (q + 1) (by omega)
theorem x_noname {L : Nat} {b : Nat → Nat} {i : Nat} (hb : i < L → b i < 256) (d : Nat) (g : mG) (x1 : Int32) (hc : ∀ k, k < 6 → tch L b i ≠ nmL k) : ∀ m q, q + m = 6 → ev none (d + 1) mm_X8_readOperand 20 [.ref 16, .int x1, .int (tlc L b i), .int (nI q)] [] g = m_bnd (ev none d mm_X8_readOpened 0 [.ref 16, .int (tlc L b i), .int x1] [] g) (fun r g2 => ev none (d + 1) mm_X8_readOperand 66 [.ref 16, .int x1, .int (tlc L b i), .int (nI 6)] (m_psh r []) g2) := by
  intro m
  induction m with
  | zero =>
    intro q hq
    have e : q = 6 := by omega
    subst e
    rw [b_X8_readOperand_20, m_if_neg (show ¬ nI 6 < 6 by decide)]
  | succ m ih =>
    intro q hq
    rw [nm_20 hb d g x1 q (by omega), m_if_neg (hc q (by omega))]
    exact ih (q + 1) (by omega)
theorem v_nameM {L : Nat} {b : Nat → Nat} {i : Nat} (hb : i < L → b i < 256) (d : Nat) (g : mG) (k : Nat) (hk : k < 6) (hc : tch L b i = nmL k) : ev none d mm_X12_nameOf 0 [.int (tlm L b i)] [] g = some (some (.int (nI k)), g) := by
  obtain ⟨k1, k2, k3⟩ := nmL_ok k hk
  rw [(tlm_eq hb k2 k3).mpr hc, b_X12_nameOf_0]
  have h6 : k = 0 ∨ k = 1 ∨ k = 2 ∨ k = 3 ∨ k = 4 ∨ k = 5 := by omega
  rcases h6 with rfl | rfl | rfl | rfl | rfl | rfl
  · rw [m_if_neg (by decide), m_if_neg (by decide), m_if_neg (by decide), m_if_neg (by decide), m_if_pos (by decide)]; rfl
  · rw [m_if_neg (by decide), m_if_pos (by decide)]; rfl
  · rw [m_if_pos (by decide)]; rfl
  · rw [m_if_neg (by decide), m_if_neg (by decide), m_if_neg (by decide), m_if_pos (by decide)]; rfl
  · rw [m_if_neg (by decide), m_if_neg (by decide), m_if_pos (by decide)]; rfl
  · rw [m_if_neg (by decide), m_if_neg (by decide), m_if_neg (by decide), m_if_neg (by decide), m_if_neg (by decide), m_if_pos (by decide)]; rfl
theorem v_nonameM {L : Nat} {b : Nat → Nat} {i : Nat} (hb : i < L → b i < 256) (d : Nat) (g : mG) (hc : ∀ k, k < 6 → tch L b i ≠ nmL k) : ev none d mm_X12_nameOf 0 [.int (tlm L b i)] [] g = some (some (.int (-1)), g) := by
  have no : ∀ k, k < 6 → ¬ tlm L b i = nI (nmL k) := fun k hk e => hc k hk ((tlm_eq hb (nmL_ok k hk).2.1 (nmL_ok k hk).2.2).mp e)
  rw [b_X12_nameOf_0, m_if_neg (show ¬ tlm L b i = 98 from no 2 (by omega)), m_if_neg (show ¬ tlm L b i = 100 from no 1 (by omega)), m_if_neg (show ¬ tlm L b i = 102 from no 4 (by omega)), m_if_neg (show ¬ tlm L b i = 111 from no 3 (by omega)), m_if_neg (show ¬ tlm L b i = 119 from no 0 (by omega)), m_if_neg (show ¬ tlm L b i = 121 from no 5 (by omega))]
