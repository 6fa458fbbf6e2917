/-! OPERATIONS (2): shelves -/
theorem sel6 {β : Type} {s : Nat} {f : Nat → Option β} (h : s < 6) : m_sel [43, 45, 47, 49, 51, 53] s f = f (43 + 2 * s) := lt6 (P := fun s => m_sel [43, 45, 47, 49, 51, 53] s f = f (43 + 2 * s)) h rfl rfl rfl rfl rfl rfl
theorem isSh6 {s : Nat} (h : s < 6) : m_isSh (43 + 2 * s) (44 + 2 * s) := lt6 (P := fun s => m_isSh (43 + 2 * s) (44 + 2 * s)) h (Or.inl ⟨rfl, rfl⟩) (Or.inr (Or.inl ⟨rfl, rfl⟩)) (Or.inr (Or.inr (Or.inl ⟨rfl, rfl⟩))) (Or.inr (Or.inr (Or.inr (Or.inl ⟨rfl, rfl⟩)))) (Or.inr (Or.inr (Or.inr (Or.inr (Or.inl ⟨rfl, rfl⟩))))) (Or.inr (Or.inr (Or.inr (Or.inr (Or.inr ⟨rfl, rfl⟩)))))
theorem sS43 {s k : Nat} (h : s < 6) : sS (43 + 2 * s) k = true ∧ sS (44 + 2 * s) k = true := lt6 (P := fun s => sS (43 + 2 * s) k = true ∧ sS (44 + 2 * s) k = true) h ⟨rfl, rfl⟩ ⟨rfl, rfl⟩ ⟨rfl, rfl⟩ ⟨rfl, rfl⟩ ⟨rfl, rfl⟩ ⟨rfl, rfl⟩
theorem nI_neg {b : Nat} (h : b < 2 ^ 31) : ¬ nI b = -1 ∧ ¬ nI b = -2 := by
  constructor
  · intro e
    have := nI_pos h
    rw [e] at this
    exact this (by decide)
  · intro e
    have := nI_pos h
    rw [e] at this
    exact this (by decide)
theorem hold_t : ∀ t, t < 5 → ¬ (-2 - nI t : Int32) = -1 ∧ (-2 - nI t : Int32) < 0 ∧ ((-2 - nI t : Int32) = -2 ↔ t = 0) ∧ (-2 - (-2 - nI t) : Int32) = nI t ∧ ¬ nI t = -1 ∧ (nI t = 0 ↔ t = 0) := by decide
/-- what a shelf answers that is asked for bytes -/
def rf (x : Int32) : Int32 := if x = -1 then -11 else if x = -2 then 0 else -12
theorem v_isEmpty {a e : Nat} (h0 : m_isSh a e) (d : Nat) (g : mG) : ev none d mm_X7_isEmpty 0 [.ref a] [] g = some (some (.int (b2 (g.1 a 1 = -1 ∧ g.1 a 2 = -1))), g) := by
  rw [b_X7_isEmpty_0 h0, mi_tt, mi_t2]
theorem v_refusal {nb s : Nat} (hs : s < 6) (hnb : nb ≤ 50) (d : Nat) (g : mG) (h : I_S nb g) : ev none (d + 1) mm_X7_refusalAsBytes 0 [.ref (43 + 2 * s)] [] g = some (some (.int (rf (g.1 90 s))), g) := by
  rw [b_X7_refusalAsBytes_0 (isSh6 hs), v_isEmpty (isSh6 hs), mb_some, mp_some, b_X7_refusalAsBytes_4 (isSh6 hs), mi_b2]
  unfold rf
  rcases h s hs with ⟨h1, h2, h3⟩ | ⟨b, hb, h1, h2, h3⟩ | ⟨t, L, ht, hL, h1, h2, h3, h4, h5, h6⟩
  · rw [m_if_pos ⟨h1, h2⟩, h3, if_pos rfl]
  · have n1 := nI_neg (b := b) (by omega)
    rw [m_if_neg (fun e => n1.1 (h1.symm.trans e.1)), h2, m_if_neg (by decide), h3, if_neg n1.1, if_neg n1.2]
  · have n1 := hold_t t ht
    rw [m_if_neg (fun e => n1.2.2.2.2.1 (h2.symm.trans e.2)), h2, h4, if_neg n1.1]
    by_cases e : t = 0
    · rw [m_if_pos (n1.2.2.2.2.2.mpr e), if_pos (n1.2.2.1.mpr e)]
    · rw [m_if_neg (fun q => e (n1.2.2.2.2.2.mp q)), if_neg (fun q => e (n1.2.2.1.mp q))]
theorem v_rowFault {s : Nat} (hs : s < 6) (d : Nat) (g : mG) : ev none d mm_X12_rowFault 0 [.ref 55, .int (nI s)] [] g = some (some (.int (rf (g.1 90 s))), g) := by
  rw [b_X12_rowFault_0, mi_nI hs (by omega), mi_nI hs (by omega), pk_cl s (hx := rfl)]
  unfold rf
  by_cases h1 : g.1 90 s = -1
  · rw [m_if_pos h1, if_pos h1]
  · rw [m_if_neg h1, if_neg h1]
    by_cases h2 : g.1 90 s = -2
    · rw [m_if_pos h2, if_pos h2]
    · rw [m_if_neg h2, if_neg h2]
/-- what a shelf answers that is asked for a place -/
noncomputable def re (hold size i : Int32) : Int32 := if hold = -1 then -11 else if hold < 0 then @ite _ (¬ i < 0 ∧ i < size) (Classical.propDecidable _) 0 (-13) else -12
theorem v_refusalE {nb s : Nat} (hs : s < 6) (hnb : nb ≤ 50) (d : Nat) (g : mG) (i : Int32) (h : I_S nb g) : ev none (d + 1) mm_X7_refusalOfElement 0 [.ref (43 + 2 * s), .int i] [] g = some (some (.int (re (g.1 90 s) (g.1 91 s) i)), g) := by
  rw [b_X7_refusalOfElement_0 (isSh6 hs), v_isEmpty (isSh6 hs), mb_some, mp_some, b_X7_refusalOfElement_4 (isSh6 hs), mi_b2]
  unfold re
  rcases h s hs with ⟨h1, h2, h3⟩ | ⟨b, hb, h1, h2, h3⟩ | ⟨t, L, ht, hL, h1, h2, h3, h4, h5, h6⟩
  · rw [m_if_pos ⟨h1, h2⟩, h3, if_pos rfl]
  · have n1 := nI_neg (b := b) (by omega)
    rw [m_if_neg (fun e => n1.1 (h1.symm.trans e.1)), h2, m_if_pos rfl, h3, if_neg n1.1, if_neg (nI_pos (by omega))]
  · have n1 := hold_t t ht
    rw [m_if_neg (fun e => n1.2.2.2.2.1 (h2.symm.trans e.2)), h2, m_if_neg n1.2.2.2.2.1, h4, if_neg n1.1, if_pos n1.2.1, h3, h5]
    by_cases e0 : i < 0
    · rw [m_if_pos e0, if_neg (fun e => e.1 e0)]
    · rw [m_if_neg e0]
      by_cases e1 : i < nI L
      · rw [m_if_pos e1, if_pos ⟨e0, e1⟩]
      · rw [m_if_neg e1, if_neg (fun e => e1 e.2)]
theorem v_whyNoPlace {nb s : Nat} (hs : s < 6) (d : Nat) (g : mG) (i : Int32) (h : I_S nb g) (hnb : nb ≤ 50) : ev none (d + 2) mm_X12_whyNoPlace 0 [.ref 55, .int (nI s), .int i] [] g = some (some (.int (re (g.1 90 s) (g.1 91 s) i)), g) := by
  rw [b_X12_whyNoPlace_0, v_isShelfM, mb_some, mp_some, b_X12_whyNoPlace_4, mi_b2, m_if_pos (ix_nI hs), mi_nI hs (by omega), mi_nI hs (by omega), mi_nI hs (by omega), pk_cl s (hx := rfl)]
  unfold re
  rcases h s hs with ⟨h1, h2, h3⟩ | ⟨b, hb, h1, h2, h3⟩ | ⟨t, L, ht, hL, h1, h2, h3, h4, h5, h6⟩
  · rw [h3, m_if_pos rfl, if_pos rfl]
  · have n1 := nI_neg (b := b) (by omega)
    rw [h3, m_if_neg n1.1, m_if_neg (nI_pos (by omega)), if_neg n1.1, if_neg (nI_pos (by omega))]
  · have n1 := hold_t t ht
    rw [h4, m_if_neg n1.1, m_if_pos n1.2.1, if_neg n1.1, if_pos n1.2.1, h5, v_in _ _ i (nI L - 1) L (by omega) rfl, mb_some, mp_some, b_X12_whyNoPlace_47, mi_b2]
    by_cases e : ix L i
    · rw [m_if_pos e, if_pos ((ix_lt (by omega)).mpr e)]
    · rw [m_if_neg e, if_neg (fun q => e ((ix_lt (by omega)).mp q))]
theorem o_element : op_element Inv 1299 := by
  intro g hI a1 a2
  have hI0 := hI
  obtain ⟨n, p, nb, W, hV, hR, hC, hP, hL, hG, hB, hS⟩ := hI
  have hnb : nb ≤ 50 := by
    obtain ⟨r, b1, b2⟩ := hB
    exact b1
  rw [b_X11_element_0, v_isShelf, mb_some, mp_some, b_X11_element_4, mi_b2]
  by_cases h : ix 6 a1
  · obtain ⟨s, hs, e⟩ := h
    subst e
    rw [m_if_pos (ix_nI hs), mi_nI hs (by omega), pk_cl s (hx := rfl), sel6 hs, b_X11_element_13 (isSh6 hs), v_refusalE hs hnb _ _ _ hS, mb_some, mp_some, b_X11_element_17]
    have hM : ev none 1299 mm_X12_element 0 [.ref 55, .int (nI s), .int a2] [] g = _ := b_X12_element_0 1298 g (nI s) a2
    rw [v_whyNoPlace hs _ _ _ hS hnb, mb_some, mp_some, b_X12_element_6] at hM
    unfold re at hM ⊢
    rcases hS s hs with ⟨h1, h2, h3⟩ | ⟨b, hb, h1, h2, h3⟩ | ⟨t, L, ht, hL, h1, h2, h3, h4, h5, h6, h7⟩
    · rw [h3, if_pos rfl, m_if_neg (by decide)]
      rw [h3, if_pos rfl, m_if_pos (by decide)] at hM
      exact ⟨_, _, g, rfl, hM, hI0⟩
    · have n1 := nI_neg (b := b) (by omega)
      rw [h3, if_neg n1.1, if_neg (nI_pos (by omega)), m_if_neg (by decide)]
      rw [h3, if_neg n1.1, if_neg (nI_pos (by omega)), m_if_pos (by decide)] at hM
      exact ⟨_, _, g, rfl, hM, hI0⟩
    · have n1 := hold_t t ht
      rw [h4, h5, if_neg n1.1, if_pos n1.2.1]
      rw [h4, h5, if_neg n1.1, if_pos n1.2.1] at hM
      by_cases e : ix L a2
      · have e2 := (ix_lt (by omega)).mpr e
        obtain ⟨j, hj, ej⟩ := e
        subst ej
        have ei : (60 : Int32) * nI s + nI j = nI (60 * s + j) := by
          rw [show (60 : Int32) = nI 60 from rfl, pk_mul, nI_add]
        rw [if_pos e2, m_if_pos rfl, mi_nI hs (by omega), pk_cl s (hx := rfl), sel6 hs, b_X11_element_30 (isSh6 hs), mi_nI (i := j) (by omega) (by omega), pk_cl j (hx := rfl)]
        rw [if_pos e2, m_if_neg (by decide), ei, mi_nI (by omega) (by omega), pk_cl (60 * s + j) (hx := rfl), ← h6 j hj] at hM
        exact ⟨_, _, g, rfl, hM, hI0⟩
      · have e2 : ¬ (¬ a2 < 0 ∧ a2 < nI L) := fun q => e ((ix_lt (by omega)).mp q)
        rw [if_neg e2, m_if_neg (by decide)]
        rw [if_neg e2, m_if_pos (by decide)] at hM
        exact ⟨_, _, g, rfl, hM, hI0⟩
  · rw [m_if_neg h]
    refine ⟨_, _, g, rfl, ?_, hI0⟩
    rw [b_X12_element_0, b_X12_whyNoPlace_0, v_isShelfM, mb_some, mp_some, b_X12_whyNoPlace_4, mi_b2, m_if_neg h, mb_some, mp_some, b_X12_element_6, m_if_pos (by decide)]
