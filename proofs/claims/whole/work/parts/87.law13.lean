/-! LAW (13): a law becomes so -/
def sCP (c k : Nat) : Bool := (c == 55 && (k == 23 || k == 35)) || c == 72 || c == 73 || c == 74 || c == 75 || c == 76
def sXB (c k : Nat) : Bool := (c == 12 && k == 2) || c == 13
theorem x_become {C : List TS} {g : mG} (hl : C.length ≤ 128) (h18 : ∀ k x, C[k]? = some x → g.1 18 k = tcc x) (d : Nat) : Ok (ev none (d + 1) mm_X3_become 0 [.ref 12, .ref 18, .int (nI C.length), .null] [] g) (fun r g2 => r = none ∧ g2.1 12 2 = nI C.length ∧ (∀ k x, C[k]? = some x → g2.1 13 k = tcc x) ∧ Fr sXB g g2) := by
  have n128 : ¬ (128 : Int32) < nI C.length := nI_nlt (a := 128) (by omega) (by omega)
  rw [b_X3_become_0, if_neg (by decide), b_X3_become_10, if_neg n128, b_X3_become_13]
  have go : ∀ m k (g2 : mG), k + m = C.length → g2.1 12 2 = nI C.length → (∀ j, g2.1 18 j = g.1 18 j) → (∀ j x, j < k → C[j]? = some x → g2.1 13 j = tcc x) → Fr sXB g g2 → Ok (ev none (d + 1) mm_X3_become 18 [.ref 12, .ref 18, .int (nI C.length), .int (nI k)] [] g2) (fun r g2 => r = none ∧ g2.1 12 2 = nI C.length ∧ (∀ k x, C[k]? = some x → g2.1 13 k = tcc x) ∧ Fr sXB g g2) := by
    intro m
    induction m with
    | zero =>
      intro k g2 hk h12 hs hd F
      rw [b_X3_become_18, h12, m_if_neg (nI_nlt (by omega) (by omega))]
      exact ok_some ⟨rfl, h12, fun j x hj => hd j x (by have := l_lt hj; omega) hj, F⟩
    | succ m ih =>
      intro k g2 hk h12 hs hd F
      rw [b_X3_become_18, h12, m_if_pos (nI_lt (show k < C.length by omega) (by omega)), mi_nI (show k < 128 by omega) (by omega), mi_nI (show k < 128 by omega) (by omega), pk_cl k (hx := rfl), nI_1]
      refine ih (k + 1) _ (by omega) (by rw [s1_ne (by omega)]; exact h12) (fun j => by rw [s1_ne (by omega)]; exact hs j) (fun j x hj hx => ?_) (fr_s1 F rfl)
      by_cases e : j = k
      · subst e
        rw [s1_at, hs]
        exact h18 j x hx
      · rw [s1_same e]
        exact hd j x (by omega) hx
  exact go C.length 0 _ (Nat.zero_add _) s1_at (fun j => by rw [s1_ne (by omega)]) (fun j x hj => absurd hj (Nat.not_lt_zero j)) (fr_s1 fr_refl rfl)
theorem t130n (q : Nat) : 130 * nI 0 + nI q = nI q := by
  rw [show 130 * nI 0 = nI 0 from rfl, nI_add, Nat.zero_add]
theorem t61n (q : Nat) : 61 * nI 0 + nI q = nI q := by
  rw [show 61 * nI 0 = nI 0 from rfl, nI_add, Nat.zero_add]
theorem tsk_n {s : TS} (h : tsk s) : s.1 < 128 := by
  rcases h with ⟨h1, h2⟩ | ⟨h1, h2⟩ | ⟨h1, h2⟩ | ⟨h1, h2⟩ | ⟨h1, h2⟩
  · omega
  · omega
  · omega
  · omega
  · exact (tbo_n h1).2
theorem tfm_sk : ∀ (ls : List TLn), (∀ x, x ∈ ls → tlok x) → ∀ s, s ∈ tfm ls → tsk s := by
  intro ls
  induction ls with
  | nil =>
    intro _ s hs
    exact absurd hs (List.not_mem_nil)
  | cons x ls ih =>
    intro hok s hs
    have hx := hok x (List.mem_cons_self ..)
    rcases List.mem_append.mp (show s ∈ tls x ++ tfm ls from hs) with hs | hs
    · rcases List.mem_append.mp (show s ∈ tlt x ++ x.2 from hs) with hs | hs
      · match x, hx, hs with
        | (none, e), hx, hs => exact absurd hs (List.not_mem_nil)
        | (some t, e), hx, hs => exact (hx.1 t rfl).2 s hs
      · exact hx.2.2 s hs
    · exact ih (fun y hy => hok y (List.mem_cons_of_mem _ hy)) s hs
theorem m_lawcopy {L : Nat} {b : Nat → Nat} {j : Nat} {ls : List TLn} {g : mG} (hok : ∀ x, x ∈ ls → tlok x) (h61 : ls.length ≤ 61) (hl : (tfm ls).length ≤ 120) (h : TMS L b j 0 (tfm ls) g) (h74 : g.1 74 1 = nI ls.length) (hT : TLS 61 ls g) (d : Nat) : Ok (ev none (d + 1) mm_X12_readText 86 [.ref 55, .int (nI 0), .null] [] g) (fun r g2 => r = some (.int (-1)) ∧ (∀ k x, (tfm ls)[k]? = some x → g2.1 72 k = nI x.1 ∧ g2.1 73 k = nI x.2) ∧ g2.1 74 0 = nI ls.length ∧ TLS 0 ls g2 ∧ g2.1 55 23 = 0 ∧ Fr sCP g g2) := by
  obtain ⟨h1, h2, h3, h4, h5, h6, h7⟩ := h
  rw [b_X12_readText_86, h4, m_if_pos tm1]
  have two : ∀ m k (g2 : mG), k + m = ls.length → g2.1 74 0 = nI ls.length → g2.1 55 23 = 0 → (∀ k x, (tfm ls)[k]? = some x → g2.1 72 k = nI x.1 ∧ g2.1 73 k = nI x.2) → TLS 61 ls g2 → (∀ i x, i < k → ls[i]? = some x → g2.1 75 i = nI ((tfm (ls.take i)).length + (tlt x).length) ∧ g2.1 76 i = nI ((tfm (ls.take i)).length + (tls x).length)) → Fr sCP g g2 → Ok (ev none (d + 1) mm_X12_readText 177 [.ref 55, .int (nI 0), .int (nI k)] [] g2) (fun r g2 => r = some (.int (-1)) ∧ (∀ k x, (tfm ls)[k]? = some x → g2.1 72 k = nI x.1 ∧ g2.1 73 k = nI x.2) ∧ g2.1 74 0 = nI ls.length ∧ TLS 0 ls g2 ∧ g2.1 55 23 = 0 ∧ Fr sCP g g2) := by
    intro m
    induction m with
    | zero =>
      intro k g2 hk q74 q23 q72 qS qD F
      rw [b_X12_readText_177, mi_nI (by omega) (by omega), pk_cl 0 (hx := rfl), q74, m_if_neg (nI_nlt (by omega) (by omega))]
      refine ok_some ⟨rfl, q72, q74, fun i x hi => ?_, q23, F⟩
      have := l_lt hi
      rw [Nat.zero_add]
      exact qD i x (by omega) hi
    | succ m ih =>
      intro k g2 hk q74 q23 q72 qS qD F
      have hkl : k < ls.length := by omega
      have hg : ls[k]? = some ls[k] := List.getElem?_eq_getElem hkl
      obtain ⟨u1, u2⟩ := qS k _ hg
      have hb : (tfm (ls.take k)).length + (tls ls[k]).length ≤ 120 := by
        have : tfm ls = tfm (ls.take k) ++ (tls ls[k] ++ tfm (ls.drop (k + 1))) := by
          conv => lhs; rw [← List.take_append_drop k ls, List.drop_eq_getElem_cons hkl, tfm_app]
          rfl
        rw [this, List.length_append, List.length_append] at hl
        omega
      have hb2 : (tlt ls[k]).length ≤ (tls ls[k]).length := by
        show (tlt ls[k]).length ≤ (tlt ls[k] ++ ls[k].2).length
        rw [List.length_append]
        omega
      rw [b_X12_readText_177, mi_nI (by omega) (by omega), pk_cl 0 (hx := rfl), q74, m_if_pos (nI_lt hkl (by omega)), show (61 : Int32) + nI k = nI (61 + k) from nI_add 61 k, t61n, mi_nI (by omega) (by omega), mi_nI (by omega) (by omega), mi_nI (by omega) (by omega), mi_nI (by omega) (by omega), pk_cl (61 + k) (hx := rfl), pk_cl k (hx := rfl), u1, u2, vp_nar_short, vp_nar_short, t16 _ (by omega), t16 _ (by omega), nI_1]
      refine ih (k + 1) _ (by omega) (by rw [s1_ne (by omega), s1_ne (by omega)]; exact q74) (by rw [s1_ne (by omega), s1_ne (by omega)]; exact q23) (fun i x hi => by rw [s1_ne (by omega), s1_ne (by omega), s1_ne (by omega), s1_ne (by omega)]; exact q72 i x hi) (fun i x hi => ?_) (fun i x hi hx => ?_) (fr_s1 (fr_s1 F rfl) rfl)
      · constructor
        · rw [s1_ne (by omega), s1_same (by omega)]; exact (qS i x hi).1
        · rw [s1_same (by omega), s1_ne (by omega)]; exact (qS i x hi).2
      · by_cases e : i = k
        · subst e
          rw [hg] at hx
          have hx := Option.some.inj hx
          subst hx
          exact ⟨by rw [s1_ne (by omega), s1_at], s1_at⟩
        · constructor
          · rw [s1_ne (by omega), s1_same e]; exact (qD i x (by omega) hx).1
          · rw [s1_same e, s1_ne (by omega)]; exact (qD i x (by omega) hx).2
  have one : ∀ m k (g2 : mG), k + m = (tfm ls).length → g2.1 55 27 = nI (tfm ls).length → g2.1 74 1 = nI ls.length → g2.1 55 23 = 0 → (∀ k x, (tfm ls)[k]? = some x → g2.1 72 (130 + k) = nI x.1 ∧ g2.1 73 (130 + k) = nI x.2) → TLS 61 ls g2 → (∀ i x, i < k → (tfm ls)[i]? = some x → g2.1 72 i = nI x.1 ∧ g2.1 73 i = nI x.2) → Fr sCP g g2 → Ok (ev none (d + 1) mm_X12_readText 105 [.ref 55, .int (nI 0), .int (nI k)] [] g2) (fun r g2 => r = some (.int (-1)) ∧ (∀ k x, (tfm ls)[k]? = some x → g2.1 72 k = nI x.1 ∧ g2.1 73 k = nI x.2) ∧ g2.1 74 0 = nI ls.length ∧ TLS 0 ls g2 ∧ g2.1 55 23 = 0 ∧ Fr sCP g g2) := by
    intro m
    induction m with
    | zero =>
      intro k g2 hk q27 q74 q23 qM qS qD F
      rw [b_X12_readText_105, q27, m_if_neg (nI_nlt (by omega) (by omega)), show m_in (1 : Int32) 2 = m_in (nI 1) 2 from rfl, mi_nI (by omega) (by omega), mi_nI (by omega) (by omega), pk_cl 0 (hx := rfl), show Int32.toNatClampNeg 1 = 1 from rfl, q74]
      refine two ls.length 0 _ (Nat.zero_add _) s1_at (by rw [s1_ne (by omega)]; exact q23) (fun i x hi => ?_) (fun i x hi => ?_) (fun i x hi => absurd hi (Nat.not_lt_zero i)) (fr_s1 F rfl)
      · have := l_lt hi
        rw [s1_ne (by omega), s1_ne (by omega)]
        exact qD i x (by omega) hi
      · rw [s1_ne (by omega), s1_ne (by omega)]
        exact qS i x hi
    | succ m ih =>
      intro k g2 hk q27 q74 q23 qM qS qD F
      have hkl : k < (tfm ls).length := by omega
      have hg : (tfm ls)[k]? = some (tfm ls)[k] := List.getElem?_eq_getElem hkl
      obtain ⟨u1, u2⟩ := qM k _ hg
      have h128 : (tfm ls)[k].1 < 128 := tsk_n (tfm_sk ls hok _ (List.getElem_mem hkl))
      rw [b_X12_readText_105, q27, m_if_pos (nI_lt hkl (by omega)), show (130 : Int32) + nI k = nI (130 + k) from nI_add 130 k, t130n, mi_nI (by omega) (by omega), mi_nI (by omega) (by omega), mi_nI (by omega) (by omega), mi_nI (by omega) (by omega), pk_cl (130 + k) (hx := rfl), pk_cl k (hx := rfl), u1, u2, vp_nar_byte, t8a _ h128, nI_1]
      refine ih (k + 1) _ (by omega) (by rw [s1_ne (by omega), s1_ne (by omega)]; exact q27) (by rw [s1_ne (by omega), s1_ne (by omega)]; exact q74) (by rw [s1_ne (by omega), s1_ne (by omega)]; exact q23) (fun i x hi => ?_) (fun i x hi => ?_) (fun i x hi hx => ?_) (fr_s1 (fr_s1 F rfl) rfl)
      · constructor
        · rw [s1_ne (by omega), s1_same (by omega)]; exact (qM i x hi).1
        · rw [s1_same (by omega), s1_ne (by omega)]; exact (qM i x hi).2
      · rw [s1_ne (by omega), s1_ne (by omega), s1_ne (by omega), s1_ne (by omega)]
        exact qS i x hi
      · by_cases e : i = k
        · subst e
          rw [hg] at hx
          have hx := Option.some.inj hx
          subst hx
          exact ⟨by rw [s1_ne (by omega), s1_at], s1_at⟩
        · constructor
          · rw [s1_ne (by omega), s1_same e]; exact (qD i x (by omega) hx).1
          · rw [s1_same e, s1_ne (by omega)]; exact (qD i x (by omega) hx).2
  refine one (tfm ls).length 0 _ (Nat.zero_add _) (by rw [s1_same (by decide)]; exact h6) (by rw [s1_ne (by omega)]; exact h74) s1_at (fun i x hi => ?_) (fun i x hi => ?_) (fun i x hi => absurd hi (Nat.not_lt_zero i)) (fr_s1 fr_refl rfl)
  · rw [s1_ne (by omega), s1_ne (by omega)]
    exact h7 i x hi
  · rw [s1_ne (by omega), s1_ne (by omega)]
    exact hT i x hi
