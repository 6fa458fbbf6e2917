/-! LAW (1): letters, and what is written -/
def tch (L : Nat) (b : Nat → Nat) (i : Nat) : Nat := if i < L ∧ b i < 128 then b i else 0
def tlc (L : Nat) (b : Nat → Nat) (i : Nat) : Int32 := if i < L then nI (b i) else -1
def tlm (L : Nat) (b : Nat → Nat) (i : Nat) : Int32 := if i < L then (nI (b i)).toInt8.toInt32 else -1
def tdg (c : Nat) : Prop := 48 ≤ c ∧ c ≤ 57
theorem t8a : ∀ x, x < 128 → (nI x).toInt8.toInt32 = nI x := by decide +kernel
theorem t8b : ∀ x, x < 256 → 128 ≤ x → (nI x).toInt8.toInt32 < 0 := by decide +kernel
theorem tm1 : (-1 : Int32) < 0 := by decide
/-- nothing, or the letter -/
theorem tlc_c {L : Nat} {b : Nat → Nat} (i : Nat) (hb : i < L → b i < 256) : (0 < tch L b i ∧ tch L b i < 128 ∧ i < L ∧ tlc L b i = nI (tch L b i) ∧ tlm L b i = nI (tch L b i)) ∨ (tch L b i = 0 ∧ (tlc L b i < 0 ∨ tlc L b i = nI 0 ∨ ∃ x, 128 ≤ x ∧ x < 256 ∧ tlc L b i = nI x) ∧ (tlm L b i < 0 ∨ tlm L b i = nI 0)) := by
  unfold tch tlc tlm
  by_cases h : i < L
  · have h2 := hb h
    by_cases h3 : b i < 128
    · rw [if_pos ⟨h, h3⟩, if_pos h, if_pos h, t8a _ h3]
      rcases Nat.eq_zero_or_pos (b i) with h0 | h0
      · rw [h0]
        exact Or.inr ⟨rfl, Or.inr (Or.inl rfl), Or.inr rfl⟩
      · exact Or.inl ⟨h0, h3, h, rfl, rfl⟩
    · rw [if_neg (fun z => h3 z.2), if_pos h, if_pos h]
      exact Or.inr ⟨rfl, Or.inr (Or.inr ⟨b i, by omega, h2, rfl⟩), Or.inl (t8b _ h2 (by omega))⟩
  · rw [if_neg (fun z => h z.1), if_neg h, if_neg h]
    exact Or.inr ⟨rfl, Or.inl tm1, Or.inl tm1⟩
theorem tng {x : Int32} {c : Nat} (h : x < 0) (hc : c < 2 ^ 31) : ¬ x = nI c := fun e => by
  rw [e] at h
  exact nI_pos hc h
theorem tlc_eq {L : Nat} {b : Nat → Nat} {i c : Nat} (hb : i < L → b i < 256) (h0 : 0 < c) (hc : c < 128) : tlc L b i = nI c ↔ tch L b i = c := by
  rcases tlc_c i hb with ⟨h1, h2, _, h3, _⟩ | ⟨h1, h2, _⟩
  · rw [h3, nI_eq (by omega) (by omega)]
  · rw [h1]
    refine ⟨fun e => ?_, fun e => by omega⟩
    rcases h2 with h2 | h2 | ⟨x, x1, x2, h2⟩
    · exact absurd e (tng h2 (by omega))
    · rw [h2, nI_eq (by omega) (by omega)] at e; omega
    · rw [h2, nI_eq (by omega) (by omega)] at e; omega
theorem tlm_eq {L : Nat} {b : Nat → Nat} {i c : Nat} (hb : i < L → b i < 256) (h0 : 0 < c) (hc : c < 128) : tlm L b i = nI c ↔ tch L b i = c := by
  rcases tlc_c i hb with ⟨h1, h2, _, _, h3⟩ | ⟨h1, _, h2⟩
  · rw [h3, nI_eq (by omega) (by omega)]
  · rw [h1]
    refine ⟨fun e => ?_, fun e => by omega⟩
    rcases h2 with h2 | h2
    · exact absurd e (tng h2 (by omega))
    · rw [h2, nI_eq (by omega) (by omega)] at e; omega
theorem tlt48 {x : Int32} (h : x < 0) : x < 48 := Int32.lt_trans h (by decide)
theorem tdg_n (c : Nat) (hc : c < 2 ^ 31) : (¬ nI c < 48 ∧ ¬ 57 < nI c) ↔ tdg c := by
  have e1 : nI c < 48 ↔ c < 48 := nI_ltI (b := 48) hc (by omega)
  have e2 : 57 < nI c ↔ 57 < c := nI_ltI (a := 57) (by omega) hc
  rw [e1, e2]
  unfold tdg
  omega
theorem tlc_dg {L : Nat} {b : Nat → Nat} {i : Nat} (hb : i < L → b i < 256) : (¬ tlc L b i < 48 ∧ ¬ 57 < tlc L b i) ↔ tdg (tch L b i) := by
  rcases tlc_c i hb with ⟨h1, h2, _, h3, _⟩ | ⟨h1, h2, _⟩
  · rw [h3, tdg_n _ (by omega)]
  · rw [h1]
    have n0 : ¬ tdg 0 := by unfold tdg; omega
    refine ⟨fun e => ?_, fun e => absurd e n0⟩
    rcases h2 with h2 | h2 | ⟨x, x1, x2, h2⟩
    · exact absurd (tlt48 h2) e.1
    · rw [h2, tdg_n _ (by omega)] at e; exact absurd e n0
    · rw [h2, tdg_n _ (by omega)] at e; unfold tdg at e; omega
theorem tlm_dg {L : Nat} {b : Nat → Nat} {i : Nat} (hb : i < L → b i < 256) : (¬ tlm L b i < 48 ∧ ¬ 57 < tlm L b i) ↔ tdg (tch L b i) := by
  rcases tlc_c i hb with ⟨h1, h2, _, _, h3⟩ | ⟨h1, _, h2⟩
  · rw [h3, tdg_n _ (by omega)]
  · rw [h1]
    have n0 : ¬ tdg 0 := by unfold tdg; omega
    refine ⟨fun e => ?_, fun e => absurd e n0⟩
    rcases h2 with h2 | h2
    · exact absurd (tlt48 h2) e.1
    · rw [h2, tdg_n _ (by omega)] at e; exact absurd e n0
theorem tdg_L {L : Nat} {b : Nat → Nat} {i : Nat} (h : tdg (tch L b i)) : i < L := by
  unfold tch at h
  split at h
  · next z => exact z.1
  · unfold tdg at h; omega
theorem tch_L {L : Nat} {b : Nat → Nat} {i : Nat} (h : 0 < tch L b i) : i < L := by
  unfold tch at h
  split at h
  · next z => exact z.1
  · omega
theorem tch_128 {L : Nat} {b : Nat → Nat} {i : Nat} : tch L b i < 128 := by
  unfold tch
  split
  · next z => exact z.2
  · omega
/-- a step: what, with what -/
abbrev TS := Nat × Nat
/-- a step in the class's codes -/
def tcc (s : TS) : Int32 := if s.1 = 1 then nI s.2 else if s.1 = 2 then -1 - nI s.2 else if s.1 = 3 then -33 else if s.1 = 4 then -126 else -nI s.1
/-- the tape -/
def TTP (c k L : Nat) (b : Nat → Nat) (g : mG) : Prop := L ≤ 120 ∧ g.1 c k = nI L ∧ ∀ i, i < L → b i < 256 ∧ g.1 17 i = nI (b i) ∧ g.1 71 i = (nI (b i)).toInt8.toInt32
/-- what reading a formula may change -/
def sTP (c k : Nat) : Bool := (c == 16 && (k == 3 || k == 4)) || c == 18 || (c == 55 && (24 ≤ k && k ≤ 27)) || ((c == 72 || c == 73) && 130 ≤ k)
theorem ttp_fr {c k L : Nat} {b : Nat → Nat} {g g2 : mG} (h : TTP c k L b g) (F : Fr sTP g g2) (hc : sTP c k = false := by rfl) : TTP c k L b g2 := by
  obtain ⟨h1, h2, h4⟩ := h
  exact ⟨h1, (F.1 c k hc).trans h2, fun i hi => ⟨(h4 i hi).1, (F.1 17 i rfl).trans (h4 i hi).2.1, (F.1 71 i rfl).trans (h4 i hi).2.2⟩⟩
/-- the class has read up to i and written l -/
def TXS (L : Nat) (b : Nat → Nat) (i : Nat) (l : List TS) (g : mG) : Prop := TTP 16 2 L b g ∧ i ≤ L ∧ g.1 16 3 = nI i ∧ g.1 16 4 = nI l.length ∧ ∀ k x, l[k]? = some x → g.1 18 k = tcc x
/-- the class stands at a fault -/
def TXF (L : Nat) (b : Nat → Nat) (f : Nat) (g : mG) : Prop := TTP 16 2 L b g ∧ f ≤ L ∧ g.1 16 3 = nI f ∧ ∃ m, m ≤ 128 ∧ g.1 16 4 = nI m
/-- the model has read up to i and laid l -/
def TMS (L : Nat) (b : Nat → Nat) (i o : Nat) (l : List TS) (g : mG) : Prop := TTP 55 23 L b g ∧ i ≤ L ∧ g.1 55 24 = nI i ∧ g.1 55 25 = -1 ∧ g.1 55 26 = nI o ∧ g.1 55 27 = nI l.length ∧ ∀ k x, l[k]? = some x → g.1 72 (130 + k) = nI x.1 ∧ g.1 73 (130 + k) = nI x.2
/-- the model found a fault -/
def TMF (L : Nat) (b : Nat → Nat) (f n : Nat) (g : mG) : Prop := TTP 55 23 L b g ∧ f ≤ L ∧ g.1 55 24 = nI f ∧ g.1 55 25 = nI f ∧ ∃ m, m ≤ n ∧ g.1 55 27 = nI m
theorem v_letter {L : Nat} {b : Nat → Nat} {g : mG} (h : TTP 16 2 L b g) {i : Nat} (hi : i ≤ L) (h3 : g.1 16 3 = nI i) (d : Nat) : ev none d mm_X8_letter 0 [.ref 16] [] g = some (some (.int (tlc L b i)), g) := by
  obtain ⟨h1, h2, h4⟩ := h
  rw [b_X8_letter_0, h3, h2, mi_c (nI_ltI (by omega) (by omega))]
  unfold tlc
  by_cases c : i < L
  · rw [m_if_pos c, if_pos c, mi_nI (by omega) (by omega), pk_cl i (hx := rfl), (h4 i c).2.1]
  · rw [m_if_neg c, if_neg c]
theorem v_look {L : Nat} {b : Nat → Nat} {g : mG} (h : TTP 55 23 L b g) {i : Nat} (hi : i ≤ L) (h3 : g.1 55 24 = nI i) (d : Nat) : ev none d mm_X12_look 0 [.ref 55] [] g = some (some (.int (tlm L b i)), g) := by
  obtain ⟨h1, h2, h4⟩ := h
  rw [b_X12_look_0, h3, h2, mi_c (nI_ltI (by omega) (by omega))]
  unfold tlm
  by_cases c : i < L
  · rw [m_if_pos c, if_pos c, mi_nI (by omega) (by omega), pk_cl i (hx := rfl), (h4 i c).2.2]
  · rw [m_if_neg c, if_neg c]
theorem ttp_b {c k L : Nat} {b : Nat → Nat} {g : mG} (h : TTP c k L b g) (i : Nat) : i < L → b i < 256 := fun hi => (h.2.2 i hi).1
theorem v_isDigit {L : Nat} {b : Nat → Nat} (i : Nat) (hb : i < L → b i < 256) (d : Nat) (g : mG) : ev none d mm_X8_isDigit 0 [.int (tlc L b i)] [] g = some (some (.int (b2 (tdg (tch L b i)))), g) := by
  rw [b_X8_isDigit_0, mi_ft, mi_f2, b2_c (tlc_dg hb)]
theorem v_isDigM {L : Nat} {b : Nat → Nat} (i : Nat) (hb : i < L → b i < 256) (d : Nat) (g : mG) : ev none d mm_X12_in 0 [.int (tlm L b i), .int 48, .int 57] [] g = some (some (.int (b2 (tdg (tch L b i)))), g) := by
  rw [v_X12_in, b2_c (tlm_dg hb)]
theorem t_ap {l : List TS} {s : TS} {k : Nat} {x : TS} (h : (l ++ [s])[k]? = some x) : (k < l.length ∧ l[k]? = some x) ∨ (k = l.length ∧ x = s) := by
  rcases Nat.lt_trichotomy k l.length with c | c | c
  · rw [List.getElem?_append_left c] at h
    exact Or.inl ⟨c, h⟩
  · subst c
    rw [List.getElem?_concat_length] at h
    exact Or.inr ⟨rfl, (Option.some.inj h).symm⟩
  · rw [List.getElem?_eq_none (by rw [List.length_append, List.length_singleton]; omega)] at h
    exact absurd h (by simp)
theorem t_len {l : List TS} {s : TS} : (l ++ [s]).length = l.length + 1 := by rw [List.length_append, List.length_singleton]
theorem x_write {L : Nat} {b : Nat → Nat} {i : Nat} {l : List TS} {g : mG} (h : TXS L b i l g) (hl : l.length < 128) (d : Nat) (s : TS) (x : Int32) (hx : x = tcc s) : Ok (ev none d mm_X8_write 0 [.ref 16, .int x] [] g) (fun r g2 => r = none ∧ TXS L b i (l ++ [s]) g2 ∧ Fr sTP g g2) := by
  subst hx
  obtain ⟨h1, h2, h3, h4, h5⟩ := h
  rw [b_X8_write_0, h4, m_if_pos (show nI l.length < 128 from nI_lt (b := 128) hl (by omega)), mi_nI hl (by omega), pk_cl l.length (hx := rfl), nI_1]
  have F : Fr sTP g (m_s1 (m_s1 g 18 l.length (tcc s)) 16 4 (nI (l.length + 1))) := fr_s1 (fr_s1 fr_refl rfl) rfl
  refine ok_some ⟨rfl, ⟨ttp_fr h1 F, h2, ?_, ?_, fun k x hk => ?_⟩, F⟩
  · rw [s1_same (by decide), s1_ne (by omega)]; exact h3
  · rw [s1_at, t_len]
  · rw [s1_ne (by omega)]
    rcases t_ap hk with ⟨c, e⟩ | ⟨c, e⟩
    · rw [s1_same (by omega)]; exact h5 k x e
    · rw [c, s1_at, e]
theorem x_writeF {L : Nat} {b : Nat → Nat} {f : Nat} {g : mG} (h : TXF L b f g) (d : Nat) (x : Int32) : Ok (ev none d mm_X8_write 0 [.ref 16, .int x] [] g) (fun r g2 => r = none ∧ TXF L b f g2 ∧ Fr sTP g g2) := by
  obtain ⟨h1, h2, h3, m, h4, h5⟩ := h
  rw [b_X8_write_0, h5, show (128 : Int32) = nI 128 from rfl, mi_c (nI_ltI (by omega) (by omega))]
  refine ok_if (fun c => ?_) (fun c => ?_)
  · rw [mi_nI c (by omega), nI_1]
    have F : Fr sTP g (m_s1 (m_s1 g 18 (Int32.toNatClampNeg (nI m)) x) 16 4 (nI (m + 1))) := fr_s1 (fr_s1 fr_refl rfl) rfl
    exact ok_some ⟨rfl, ⟨ttp_fr h1 F, h2, by rw [s1_same (by decide), s1_ne (by omega)]; exact h3, m + 1, by omega, s1_at⟩, F⟩
  · exact ok_some ⟨rfl, ⟨h1, h2, h3, m, h4, h5⟩, fr_refl⟩
theorem sTP72 (k : Nat) : sTP 72 (130 + k) = true ∧ sTP 73 (130 + k) = true := by
  constructor <;> simp [sTP]
theorem m_addStep {L : Nat} {b : Nat → Nat} {i o : Nat} {l : List TS} {g : mG} (h : TMS L b i o l g) (hl : l.length < 130) (d : Nat) (s : TS) (hs : s.1 < 128) : Ok (ev none d mm_X12_addStep 0 [.ref 55, .int (nI s.1), .int (nI s.2)] [] g) (fun r g2 => r = none ∧ TMS L b i o (l ++ [s]) g2 ∧ Fr sTP g g2) := by
  obtain ⟨h1, h2, h3, h4, h5, h6, h7⟩ := h
  rw [b_X12_addStep_0, h6, show (130 : Int32) + nI l.length = nI (130 + l.length) from nI_add 130 _, mi_nI (by omega) (by omega), mi_nI (by omega) (by omega), pk_cl (130 + l.length) (hx := rfl), pk_vb, t8a _ hs, nI_1]
  have F : Fr sTP g (m_s1 (m_s1 (m_s1 g 72 (130 + l.length) (nI s.1)) 73 (130 + l.length) (nI s.2)) 55 27 (nI (l.length + 1))) := fr_s1 (fr_s1 (fr_s1 fr_refl (sTP72 _).1) (sTP72 _).2) rfl
  refine ok_some ⟨rfl, ⟨ttp_fr h1 F, h2, ?_, ?_, ?_, ?_, fun k x hk => ?_⟩, F⟩
  · rw [s1_same (by decide), s1_ne (by omega), s1_ne (by omega)]; exact h3
  · rw [s1_same (by decide), s1_ne (by omega), s1_ne (by omega)]; exact h4
  · rw [s1_same (by decide), s1_ne (by omega), s1_ne (by omega)]; exact h5
  · rw [s1_at, t_len]
  · rcases t_ap hk with ⟨c, e⟩ | ⟨c, e⟩
    · constructor
      · rw [s1_ne (by omega), s1_ne (by omega), s1_same (by omega)]; exact (h7 k x e).1
      · rw [s1_ne (by omega), s1_same (by omega), s1_ne (by omega)]; exact (h7 k x e).2
    · constructor
      · rw [s1_ne (by omega), s1_ne (by omega), c, s1_at, e]
      · rw [s1_ne (by omega), c, s1_at, e]
theorem m_addStepF {L : Nat} {b : Nat → Nat} {f n : Nat} {g : mG} (h : TMF L b f n g) (hn : n < 130) (d : Nat) (x y : Int32) : Ok (ev none d mm_X12_addStep 0 [.ref 55, .int x, .int y] [] g) (fun r g2 => r = none ∧ TMF L b f (n + 1) g2 ∧ Fr sTP g g2) := by
  obtain ⟨h1, h2, h3, h4, m, h5, h6⟩ := h
  rw [b_X12_addStep_0, h6, show (130 : Int32) + nI m = nI (130 + m) from nI_add 130 _, mi_nI (by omega) (by omega), mi_nI (by omega) (by omega), pk_cl (130 + m) (hx := rfl), nI_1]
  refine ok_some ⟨rfl, ⟨ttp_fr h1 (fr_s1 (fr_s1 (fr_s1 fr_refl (sTP72 _).1) (sTP72 _).2) rfl), h2, ?_, ?_, m + 1, by omega, s1_at⟩, fr_s1 (fr_s1 (fr_s1 fr_refl (sTP72 _).1) (sTP72 _).2) rfl⟩
  · rw [s1_same (by decide), s1_ne (by omega), s1_ne (by omega)]; exact h3
  · rw [s1_same (by decide), s1_ne (by omega), s1_ne (by omega)]; exact h4
theorem m_wrong {L : Nat} {b : Nat → Nat} {i o : Nat} {l : List TS} {g : mG} (h : TMS L b i o l g) (d : Nat) : Ok (ev none d mm_X12_wrong 0 [.ref 55] [] g) (fun r g2 => r = none ∧ TMF L b i l.length g2 ∧ Fr sTP g g2) := by
  obtain ⟨h1, h2, h3, h4, h5, h6, h7⟩ := h
  rw [b_X12_wrong_0, h4, m_if_pos tm1, h3]
  refine ok_some ⟨rfl, ⟨ttp_fr h1 (fr_s1 fr_refl rfl), h2, ?_, s1_at, l.length, by omega, ?_⟩, fr_s1 fr_refl rfl⟩
  · rw [s1_same (by decide)]; exact h3
  · rw [s1_same (by decide)]; exact h6
