/-! OPERATIONS (29): the deeds, in the class -/
def XK (b kd : Nat) (t : Tr) (g : mG) : Prop := b < 50 ∧ kd < 8 ∧ g.1 39 4 = nI b ∧ g.1 40 b = nI kd ∧ g.1 39 3 = nI t.1 ∧ t.1 < 1000 ∧ ∀ k, k < 24 → g.1 41 k = t.2 k
def sTX (c k : Nat) : Bool := (c == 39 && k == 3) || c == 41
theorem run_6 (d : Nat) (g : mG) (x1 x3 x4 : Int32) (k m i : Nat) (hk : k < 8) (hm : m < 4) (hi : i < 8) : ev none (d + 1) mm_X0_run 6 [.ref 39, .int x1, .int (nI m), .int x3, .int x4, .int (nI k), .int (nI i)] [] g = m_if (sa4.getD (k * 4 + m) 0 = 0) (ev none (d + 1) mm_X0_run 6 [.ref 39, .int x1, .int (nI m), .int x3, .int x4, .int (sa3.getD k 0), .int (nI (i + 1))] [] g) (ev none (d + 1) mm_X0_run 48 [.ref 39, .int x1, .int (nI m), .int x3, .int x4, .int (nI k), .int (nI i)] [] g) := by
  rw [b_X0_run_6, m_if_pos (show nI i < 8 from nI_lt (b := 8) hi (by omega)), v_isKind, mb_some, mp_some, b_X0_run_18, mi_b2, m_if_pos (ix_nI hk), show nI k * 4 + nI m = nI (k * 4 + m) by rw [show (4 : Int32) = nI 4 from rfl, pk_mul, nI_add], mi_nI (by omega) (by omega), pk_cl (k * 4 + m) (hx := rfl), mi_nI hk (by omega), pk_cl k (hx := rfl), nI_1]
theorem run_48 {b kd : Nat} {t : Tr} {g : mG} (hK : XK b kd t g) (ht : t.1 + 1 < 1000) (d : Nat) (x1 x3 x6 : Int32) (k m e : Nat) (hk : k < 8) (hm : m < 4) (he : e < 30) {Q : Option Value → mG → Prop} (hq : ∀ g2, XK b kd (psh (sa4.getD (k * 4 + m) 0) t) g2 → Fr sTX g g2 → Ok (ev none d mm_X0_workedOut 0 [.ref 39, .int (sa4.getD (k * 4 + m) 0), .int (sa3.getD k 0), .int x3, .int (nI (e + 1))] [] g2) (fun r g3 => ∃ v, r = some (.int v) ∧ Q (some (.int v)) g3)) : Ok (ev none (d + 1) mm_X0_run 48 [.ref 39, .int x1, .int (nI m), .int x3, .int (nI e), .int (nI k), .int x6] [] g) Q := by
  obtain ⟨k1, k2, k3, k4, k5, k6, k7⟩ := hK
  have go : ∀ g2, g2.1 39 3 = nI t.1 → XK b kd (psh (sa4.getD (k * 4 + m) 0) t) (m_s1 g2 39 3 (nI (t.1 + 1))) → Fr sTX g (m_s1 g2 39 3 (nI (t.1 + 1))) → Ok (ev none (d + 1) mm_X0_run 97 [.ref 39, .int x1, .int (nI m), .int x3, .int (nI e), .int (nI k), .int (sa4.getD (k * 4 + m) 0)] [] g2) Q := by
    intro g2 h3 hX F
    rw [b_X0_run_97, mi_nI hk (by omega), pk_cl k (hx := rfl), h3, nI_1, nI_1]
    refine ok_bnd (hq _ hX F) ?_
    intro r g4 ⟨v, hr, hQ⟩
    subst hr
    rw [mp_some, b_X0_run_124]
    exact ok_some hQ
  rw [b_X0_run_48, v_isKind, mb_some, mp_some, b_X0_run_53, mi_b2, m_if_pos (ix_nI hk), m_if_neg (show ¬ 30 < nI e from nI_nlt (a := 30) (by omega) (by omega)), show nI k * 4 + nI m = nI (k * 4 + m) by rw [show (4 : Int32) = nI 4 from rfl, pk_mul, nI_add], mi_nI (by omega) (by omega), pk_cl (k * 4 + m) (hx := rfl), k5, show (24 : Int32) = nI 24 from rfl, mi_c (nI_ltI (by omega) (by omega))]
  refine ok_if (fun z => ?_) (fun z => ?_)
  · rw [mi_nI (by omega) (by omega), pk_cl t.1 (hx := rfl)]
    refine go _ ((s1_ne (by omega)).trans k5) ⟨k1, k2, by rw [s1_same (by decide), s1_ne (by omega)]; exact k3, by rw [s1_ne (by omega), s1_ne (by omega)]; exact k4, s1_at, ht, fun j hj => ?_⟩ (fr_s1 (fr_s1 fr_refl rfl) rfl)
    rw [s1_ne (by omega)]
    show _ = if t.1 < 24 ∧ j = t.1 then sa4.getD (k * 4 + m) 0 else t.2 j
    by_cases e : j = t.1
    · rw [if_pos ⟨z, e⟩, e, s1_at]
    · rw [if_neg (fun y => e y.2), s1_same e]
      exact k7 j hj
  · refine go g k5 ⟨k1, k2, by rw [s1_same (by decide)]; exact k3, by rw [s1_ne (by omega)]; exact k4, s1_at, ht, fun j hj => ?_⟩ (fr_s1 fr_refl rfl)
    rw [s1_ne (by omega)]
    show _ = if t.1 < 24 ∧ j = t.1 then sa4.getD (k * 4 + m) 0 else t.2 j
    rw [if_neg (fun y => z y.1)]
    exact k7 j hj
