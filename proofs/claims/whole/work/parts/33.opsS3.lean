/-! OPERATIONS (4): put, taken, shift -/
theorem mi_ite {β : Type} {c : Prop} [Decidable c] {x y : Option β} : m_if c x y = if c then x else y := by
  by_cases h : c
  · rw [m_if_pos h, if_pos h]
  · rw [m_if_neg h, if_neg h]
theorem mi_pure {c : Prop} [Decidable c] {a b : Int32} {g : mG} : m_if c (some (some (Value.int a), g)) (some (some (.int b), g)) = some (some (.int (if c then a else b)), g) := by
  by_cases h : c
  · rw [m_if_pos h, if_pos h]
  · rw [m_if_neg h, if_neg h]
/-- a shelf of the model, as its holds and size say -/
def HZ (hold size : Int32) : Prop := hold = -1 ∨ (∃ b, b < 50 ∧ hold = nI b) ∨ ∃ t L, t < 5 ∧ L ≤ 60 ∧ hold = -2 - nI t ∧ size = nI L
theorem SH_HZ {nb s : Nat} {a b c : Int32} {el : Nat → Int64} {x y : Int32} {els : Nat → Int64} (hnb : nb ≤ 50) (h : SH nb s a b c el x y els) : HZ x y := by
  rcases h with h | ⟨b, hb, h1, h2, h3⟩ | ⟨t, L, ht, hL, h1, h2, h3, h4, h5, h6⟩
  · exact Or.inl h.2.2
  · exact Or.inr (Or.inl ⟨b, by omega, h3⟩)
  · exact Or.inr (Or.inr ⟨t, L, ht, hL, h4, h5⟩)
theorem v_why {s : Nat} (hs : s < 6) (d : Nat) (g : mG) (i : Int32) (h : HZ (g.1 90 s) (g.1 91 s)) : ev none (d + 2) mm_X12_whyNoPlace 0 [.ref 55, .int (nI s), .int i] [] g = some (some (.int (re (g.1 90 s) (g.1 91 s) i)), g) := by
  rw [b_X12_whyNoPlace_0, v_isShelfM, mb_some, mp_some, b_X12_whyNoPlace_4, mi_b2, m_if_pos (ix_nI hs), mi_nI hs (by omega), mi_nI hs (by omega), mi_nI hs (by omega), pk_cl s (hx := rfl)]
  unfold re
  rcases h with h3 | ⟨b, hb, h3⟩ | ⟨t, L, ht, hL, h4, h5⟩
  · rw [h3, m_if_pos rfl, if_pos rfl]
  · have n1 := nI_neg (b := b) (by omega)
    rw [h3, m_if_neg n1.1, m_if_neg (nI_pos (by omega)), if_neg n1.1, if_neg (nI_pos (by omega))]
  · have n1 := hold_t t ht
    rw [h4, m_if_neg n1.1, m_if_pos n1.2.1, if_neg n1.1, if_pos n1.2.1, h5, v_in _ _ i (nI L - 1) L (by omega) rfl, mb_some, mp_some, b_X12_whyNoPlace_47, mi_b2]
    by_cases e : ix L i
    · rw [m_if_pos e, if_pos ((ix_lt (by omega)).mpr e)]
    · rw [m_if_neg e, if_neg (fun q => e ((ix_lt (by omega)).mp q))]
theorem m_put6 (d : Nat) (g : mG) (s j : Nat) (hs : s < 6) (hj : j < 60) (v : Int64) (t : Nat) (ht : t < 5) (h : g.1 90 s = -2 - nI t) : ev none d mm_X12_put 6 [.ref 55, .int (nI s), .int (nI j), .long v, .null, .null, .null] [.int 0] g = some (some (.int 1), m_s2 g 92 (60 * s + j) (nv t v)) := by
  have ei : (60 : Int32) * nI s + nI j = nI (60 * s + j) := by
    rw [show (60 : Int32) = nI 60 from rfl, pk_mul, nI_add]
  have e2 : ∀ x : Option (Option Value × mG), m_in (nI (60 * s + j)) 360 x = x := fun x => mi_nI (by omega) (by omega)
  rw [b_X12_put_6, m_if_neg (by decide), mi_nI hs (by omega), pk_cl s (hx := rfl), h, (hold_t t ht).2.2.2.1, ei]
  simp only [e2, pk_cl (60 * s + j) (hx := rfl)]
  refine lt5 (P := fun t => m_if (nI t = 0) _ (m_if (nI t = 1) _ (m_if (nI t = 2) _ (m_if (nI t = 3) _ _))) = some (some (Value.int 1), m_s2 g 92 (60 * s + j) (nv t v))) ht ?_ ?_ ?_ ?_ ?_
  · rw [m_if_pos (by decide)]; rfl
  · rw [m_if_neg (by decide), m_if_pos (by decide)]; rfl
  · rw [m_if_neg (by decide), m_if_neg (by decide), m_if_pos (by decide)]; rfl
  · rw [m_if_neg (by decide), m_if_neg (by decide), m_if_neg (by decide), m_if_pos (by decide)]; rfl
  · rw [m_if_neg (by decide), m_if_neg (by decide), m_if_neg (by decide), m_if_neg (by decide)]
    unfold nv
    rw [if_neg (by decide), if_neg (by decide), if_neg (by decide), if_neg (by decide)]
    by_cases c : lg_cmp v 0 = 0
    · rw [m_if_pos c, if_pos c]
    · rw [m_if_neg c, if_neg c]
theorem o_put : op_put Inv 1299 := by
  intro g hI a1 a2 a3
  have hI0 := hI
  obtain ⟨n, p, nb, W, hV, hR, hC, hP, hL, hG, hB, hS⟩ := hI
  have hnb : nb ≤ 50 := by
    obtain ⟨r, b1, b2⟩ := hB
    exact b1
  rw [b_X11_put_0, v_isShelf, mb_some, mp_some, b_X11_put_4, mi_b2]
  by_cases h : ix 6 a1
  · obtain ⟨s, hs, e⟩ := h
    subst e
    rw [m_if_pos (ix_nI hs), mi_nI hs (by omega), pk_cl s (hx := rfl), sel6 hs, b_X11_put_15 (isSh6 hs), v_refusalE hs hnb _ _ _ hS, mb_some, mp_some, b_X11_put_19, pk_cl s (hx := rfl)]
    have hM : ∀ g1 : mG, g1.1 = g.1 → ev none 1299 mm_X12_put 0 [.ref 55, .int (nI s), .int a2, .long a3, .null, .null, .null] [] g1 = ev none 1299 mm_X12_put 6 [.ref 55, .int (nI s), .int a2, .long a3, .null, .null, .null] [.int (re (g1.1 90 s) (g1.1 91 s) a2)] g1 := by
      intro g1 h1
      have hz : HZ (g1.1 90 s) (g1.1 91 s) := by
        rw [h1]
        exact SH_HZ hnb (hS s hs)
      rw [b_X12_put_0, v_why hs _ _ _ hz, mb_some, mp_some]
    have neg : ∀ x : Int32, re (g.1 90 s) (g.1 91 s) a2 = x → x < 0 → ∃ r g1 g2, m_if (x = 0) (m_in (nI s) 6 (m_sel [43, 45, 47, 49, 51, 53] s (fun j => ev none 1299 mm_X11_put 35 [.ref 0, .int (nI s), .int a2, .long a3, .null, .int x] [.ref j] g))) (some (some (.int x), g)) = some (some (.int r), g1) ∧ ev none 1299 mm_X12_put 0 [.ref 55, .int (nI s), .int a2, .long a3, .null, .null, .null] [] g1 = some (some (.int r), g2) ∧ Inv g2 := by
      intro x hx h0
      have : ¬ x = 0 := fun e => by rw [e] at h0; exact absurd h0 (by decide)
      rw [m_if_neg this]
      refine ⟨_, _, g, rfl, ?_, hI0⟩
      rw [hM g rfl, hx, b_X12_put_6, m_if_pos h0]
    rcases hS s hs with ⟨h1, h2, h3⟩ | ⟨b, hb, h1, h2, h3⟩ | ⟨t, L, ht, hL2, h1, h2, h3, h4, h5, h6, h7⟩
    · have e : re (g.1 90 s) (g.1 91 s) a2 = -11 := by
        unfold re
        rw [h3, if_pos rfl]
      rw [e]
      exact neg (-11) e (by decide)
    · have n1 := nI_neg (b := b) (by omega)
      have e : re (g.1 90 s) (g.1 91 s) a2 = -12 := by
        unfold re
        rw [h3, if_neg n1.1, if_neg (nI_pos (by omega))]
      rw [e]
      exact neg (-12) e (by decide)
    · have n1 := hold_t t ht
      by_cases c : ix L a2
      · have e : re (g.1 90 s) (g.1 91 s) a2 = 0 := by
          unfold re
          rw [h4, h5, if_neg n1.1, if_pos n1.2.1, if_pos ((ix_lt (by omega)).mpr c)]
        obtain ⟨j, hj, ej⟩ := c
        subst ej
        have ei : (60 : Int32) * nI s + nI j = nI (60 * s + j) := by
          rw [show (60 : Int32) = nI 60 from rfl, pk_mul, nI_add]
        rw [e, m_if_pos rfl, mi_nI hs (by omega), sel6 hs, b_X11_put_35 (isSh6 hs), b_X7_setElement_0 (isSh6 hs), h3, m_if_neg (nI_pos (by omega)), m_if_pos (nI_lt hj (by omega)), v_narrowed (isSh6 hs) _ _ _ t ht h2, mb_some, mp_some, b_X7_setElement_22 (isSh6 hs), mi_nI (i := j) (by omega) (by omega), pk_cl j (hx := rfl), mb_some, mp_none, b_X11_put_40]
        have F1 : Fr sS g (m_s2 g (44 + 2 * s) j (nv t a3)) := fr_s2 fr_refl (sS43 hs).2
        have n44 : ∀ s', s' < 6 → (92 : Nat) ≠ 44 + 2 * s' := fun s' h => by omega
        have S2 : I_S nb (m_s2 (m_s2 g (44 + 2 * s) j (nv t a3)) 92 (60 * s + j) (nv t a3)) := by
          refine S_upd (s := s) hS ?_ ?_
          · intro s' hs' ne
            refine ⟨fun k => rfl, rfl, rfl, fun i => ?_, fun i hi => ?_⟩
            · rw [s2_ne (by omega), s2_ne (by omega)]
            · rw [s2_r, if_pos rfl, if_neg (by omega), s2_ne (by omega)]
          · refine Or.inr (Or.inr ⟨t, L, ht, hL2, h1, h2, h3, h4, h5, fun i hi => ?_, fun e0 i hi => ?_⟩)
            · rw [s2_ne (by omega), s2_r, if_pos rfl, s2_r, if_pos rfl]
              by_cases q : i = j
              · rw [if_pos q, if_pos (by omega)]
              · rw [if_neg q, if_neg (by omega), s2_ne (by omega)]
                exact h6 i hi
            · rw [s2_ne (by omega), s2_r, if_pos rfl]
              by_cases q : i = j
              · rw [if_pos q, e0]
                exact nv_byte a3
              · rw [if_neg q]
                exact h7 e0 i hi
        refine ⟨_, _, m_s2 (m_s2 g (44 + 2 * s) j (nv t a3)) 92 (60 * s + j) (nv t a3), rfl, ?_, inv_S (fr_s2 F1 rfl) hV hR hC hP hL hG hB S2⟩
        rw [hM (m_s2 g (44 + 2 * s) j (nv t a3)) rfl]
        have e' : re ((m_s2 g (44 + 2 * s) j (nv t a3)).1 90 s) ((m_s2 g (44 + 2 * s) j (nv t a3)).1 91 s) (nI j) = 0 := e
        rw [e']
        exact m_put6 _ _ s j hs (by omega) a3 t ht h4
      · have e : re (g.1 90 s) (g.1 91 s) a2 = -13 := by
          unfold re
          rw [h4, h5, if_neg n1.1, if_pos n1.2.1, if_neg (fun q => c ((ix_lt (by omega)).mp q))]
        rw [e]
        exact neg (-13) e (by decide)
  · rw [m_if_neg h]
    refine ⟨_, _, g, rfl, ?_, hI0⟩
    rw [b_X12_put_0, b_X12_whyNoPlace_0, v_isShelfM, mb_some, mp_some, b_X12_whyNoPlace_4, mi_b2, m_if_neg h, mb_some, mp_some, b_X12_put_6, m_if_pos (by decide)]
/-- kinds above kinds -/
def abv : Nat → Option Nat
  | 1 => some 0
  | 2 => some 0
  | 3 => some 2
  | 4 => some 1
  | 5 => some 3
  | 6 => some 0
  | 7 => some 6
  | _ => none
theorem sa3_v : ∀ k, k < 8 → sa3.getD k 0 = (match abv k with | some j => nI j | none => -1) := by decide
theorem un_step (d : Nat) (g : mG) (x1 x2 : Int32) (k i : Nat) (hk : k < 8) (hi : i < 8) : ev none (d + 1) mm_X0_isUnder 5 [.ref 39, .int x1, .int x2, .int (nI k), .int (nI i)] [] g = m_if (nI k = x2) (some (some (.int 1), g)) (ev none (d + 1) mm_X0_isUnder 5 [.ref 39, .int x1, .int x2, .int (match abv k with | some j => nI j | none => -1), .int (nI (i + 1))] [] g) := by
  rw [b_X0_isUnder_5, m_if_pos (show nI i < 8 from nI_lt (b := 8) hi (by omega)), v_isKind, mb_some, mp_some, b_X0_isUnder_16, mi_b2, m_if_pos (ix_nI hk), mi_nI hk (by omega), pk_cl k (hx := rfl), nI_1, sa3_v k hk]
theorem un_end (d : Nat) (g : mG) (x1 x2 : Int32) (i : Nat) (hi : i < 8) : ev none (d + 1) mm_X0_isUnder 5 [.ref 39, .int x1, .int x2, .int (-1), .int (nI i)] [] g = some (some (.int 0), g) := by
  have : ¬ ix 8 (-1 : Int32) := fun h => ix_n0 h (by omega) (by decide)
  rw [b_X0_isUnder_5, m_if_pos (show nI i < 8 from nI_lt (b := 8) hi (by omega)), v_isKind, mb_some, mp_some, b_X0_isUnder_16, mi_b2, m_if_neg this]
/-- kind k is kind u or stands under it -/
def und (k u : Nat) : Bool := u == 0 || k == u || (u == 1 && k == 4) || (u == 2 && (k == 3 || k == 5)) || (u == 3 && k == 5) || (u == 6 && k == 7)
theorem lt8 {t : Nat} {P : Nat → Prop} (h : t < 8) (h0 : P 0) (h1 : P 1) (h2 : P 2) (h3 : P 3) (h4 : P 4) (h5 : P 5) (h6 : P 6) (h7 : P 7) : P t := by
  match t, h with
  | 0, _ => exact h0
  | 1, _ => exact h1
  | 2, _ => exact h2
  | 3, _ => exact h3
  | 4, _ => exact h4
  | 5, _ => exact h5
  | 6, _ => exact h6
  | 7, _ => exact h7
def u0 (x2 : Int32) : Int32 := if nI 0 = x2 then 1 else 0
def u1 (k : Nat) (x2 : Int32) : Int32 := if nI k = x2 then 1 else u0 x2
def u2 (k j : Nat) (x2 : Int32) : Int32 := if nI k = x2 then 1 else u1 j x2
def u3 (k j l : Nat) (x2 : Int32) : Int32 := if nI k = x2 then 1 else u2 j l x2
theorem un0 (d : Nat) (g : mG) (x1 x2 : Int32) (i : Nat) (hi : i < 7) : ev none (d + 1) mm_X0_isUnder 5 [.ref 39, .int x1, .int x2, .int (nI 0), .int (nI i)] [] g = some (some (.int (u0 x2)), g) := by
  rw [un_step d g x1 x2 0 i (by omega) (by omega)]
  show m_if _ _ (ev none (d + 1) mm_X0_isUnder 5 [.ref 39, .int x1, .int x2, .int (-1), .int (nI (i + 1))] [] g) = _
  rw [un_end d g x1 x2 (i + 1) (by omega), mi_pure]
  rfl
theorem un1 (d : Nat) (g : mG) (x1 x2 : Int32) (i : Nat) (hi : i < 6) (k : Nat) (hk : k < 8) (ha : abv k = some 0) : ev none (d + 1) mm_X0_isUnder 5 [.ref 39, .int x1, .int x2, .int (nI k), .int (nI i)] [] g = some (some (.int (u1 k x2)), g) := by
  rw [un_step d g x1 x2 k i hk (by omega), ha]
  show m_if _ _ (ev none (d + 1) mm_X0_isUnder 5 [.ref 39, .int x1, .int x2, .int (nI 0), .int (nI (i + 1))] [] g) = _
  rw [un0 d g x1 x2 (i + 1) (by omega), mi_pure]
  rfl
theorem un2 (d : Nat) (g : mG) (x1 x2 : Int32) (i : Nat) (hi : i < 5) (k j : Nat) (hk : k < 8) (hj : j < 8) (ha : abv k = some j) (hb : abv j = some 0) : ev none (d + 1) mm_X0_isUnder 5 [.ref 39, .int x1, .int x2, .int (nI k), .int (nI i)] [] g = some (some (.int (u2 k j x2)), g) := by
  rw [un_step d g x1 x2 k i hk (by omega), ha]
  show m_if _ _ (ev none (d + 1) mm_X0_isUnder 5 [.ref 39, .int x1, .int x2, .int (nI j), .int (nI (i + 1))] [] g) = _
  rw [un1 d g x1 x2 (i + 1) (by omega) j hj hb, mi_pure]
  rfl
theorem un3 (d : Nat) (g : mG) (x1 x2 : Int32) (i : Nat) (hi : i < 4) (k j l : Nat) (hk : k < 8) (hj : j < 8) (hl : l < 8) (ha : abv k = some j) (hb : abv j = some l) (hc : abv l = some 0) : ev none (d + 1) mm_X0_isUnder 5 [.ref 39, .int x1, .int x2, .int (nI k), .int (nI i)] [] g = some (some (.int (u3 k j l x2)), g) := by
  rw [un_step d g x1 x2 k i hk (by omega), ha]
  show m_if _ _ (ev none (d + 1) mm_X0_isUnder 5 [.ref 39, .int x1, .int x2, .int (nI j), .int (nI (i + 1))] [] g) = _
  rw [un2 d g x1 x2 (i + 1) (by omega) j l hj hl hb hc, mi_pure]
  rfl
def ux : Nat → Int32 → Int32
  | 0 => u0
  | 1 => u1 1
  | 2 => u1 2
  | 3 => u2 3 2
  | 4 => u2 4 1
  | 5 => u3 5 3 2
  | 6 => u1 6
  | _ => u2 7 6
theorem ux_v : ∀ k, k < 8 → ∀ u, u < 8 → ux k (nI u) = if und k u then 1 else 0 := by decide +kernel
theorem v_isUnder (d : Nat) (g : mG) (k u : Nat) (hk : k < 8) (hu : u < 8) : ev none (d + 1) mm_X0_isUnder 0 [.ref 39, .int (nI k), .int (nI u), .null, .null] [] g = some (some (.int (if und k u then 1 else 0)), g) := by
  have e : ev none (d + 1) mm_X0_isUnder 5 [.ref 39, .int (nI k), .int (nI u), .int (nI k), .int (nI 0)] [] g = some (some (.int (ux k (nI u))), g) := by
    refine lt8 (P := fun k => ev none (d + 1) mm_X0_isUnder 5 [.ref 39, .int (nI k), .int (nI u), .int (nI k), .int (nI 0)] [] g = some (some (.int (ux k (nI u))), g)) hk ?_ ?_ ?_ ?_ ?_ ?_ ?_ ?_
    · exact un0 d g _ _ 0 (by omega)
    · exact un1 d g _ _ 0 (by omega) 1 (by omega) rfl
    · exact un1 d g _ _ 0 (by omega) 2 (by omega) rfl
    · exact un2 d g _ _ 0 (by omega) 3 2 (by omega) (by omega) rfl rfl
    · exact un2 d g _ _ 0 (by omega) 4 1 (by omega) (by omega) rfl rfl
    · exact un3 d g _ _ 0 (by omega) 5 3 2 (by omega) (by omega) (by omega) rfl rfl rfl
    · exact un1 d g _ _ 0 (by omega) 6 (by omega) rfl
    · exact un2 d g _ _ 0 (by omega) 7 6 (by omega) (by omega) rfl rfl
  rw [b_X0_isUnder_0]
  exact e.trans (by rw [ux_v k hk u hu])
def mu (x0 x1 : Int32) : Int32 := if x1 = 0 then 1 else if x0 = x1 then 1 else
  let c4 : Int32 := if x1 = 6 then (if x0 = 7 then 1 else 0) else 0
  let c3 : Int32 := if x1 = 3 then (if x0 = 5 then 1 else c4) else c4
  let c2 : Int32 := if x1 = 2 then (if x0 = 3 then 1 else if x0 = 5 then 1 else c3) else c3
  if x1 = 1 then (if x0 = 4 then 1 else c2) else c2
theorem mu_v : ∀ k, k < 8 → ∀ u, u < 8 → mu (nI k) (nI u) = if und k u then 1 else 0 := by decide +kernel
theorem v_isUnderM (d : Nat) (g : mG) (k u : Nat) (hk : k < 8) (hu : u < 8) : ev none d mm_X12_isUnder 0 [.int (nI k), .int (nI u)] [] g = some (some (.int (if und k u then 1 else 0)), g) := by
  rw [← mu_v k hk u hu, b_X12_isUnder_0, b_X12_isUnder_19, b_X12_isUnder_34, b_X12_isUnder_44]
  simp only [mi_pure]
  rfl
theorem o_taken : op_taken Inv 1299 := by
  intro g hI a1 a2
  have hI0 := hI
  obtain ⟨n, p, nb, W, hV, hR, hC, hP, hL, hG, ⟨r, b1, b2, b3, b4, b5, b6, b7, b8⟩, hS⟩ := hI
  rw [b_X11_taken_0, v_isShelf, mb_some, mp_some, b_X11_taken_4, mi_b2]
  by_cases h : ix 6 a1
  · rw [m_if_pos h, v_isKind, mb_some, mp_some, b_X11_taken_11, mi_b2]
    have hM : ev none 1299 mm_X12_taken 0 [.ref 55, .int a1, .int a2] [] g = _ := b_X12_taken_0 1298 g a1 a2
    rw [v_isShelfM, mb_some, mp_some, b_X12_taken_4, mi_b2, m_if_pos h, v_in _ _ a2 7 8 (by omega) rfl, mb_some, mp_some, b_X12_taken_14, mi_b2] at hM
    obtain ⟨s, hs, e⟩ := h
    subst e
    by_cases h2 : ix 8 a2
    · obtain ⟨u, hu, e⟩ := h2
      subst e
      rw [m_if_pos (ix_nI hu), mi_nI hs (by omega), mi_nI hs (by omega), mi_nI hs (by omega), pk_cl s (hx := rfl)] at hM
      rw [m_if_pos (ix_nI hu), mi_nI hs (by omega), pk_cl s (hx := rfl), sel6 hs, b_X11_taken_22 (isSh6 hs), v_isEmpty (isSh6 hs), mb_some, mp_some, b_X11_taken_25, mi_b2]
      rcases hS s hs with ⟨h1, h2, h3⟩ | ⟨b, hb, h1, h2, h3⟩ | ⟨t, L, ht, hL, h1, h2, h3, h4, h5, h6, h7⟩
      · rw [m_if_pos ⟨h1, h2⟩]
        rw [h3, m_if_pos rfl] at hM
        exact ⟨_, _, g, rfl, hM, hI0⟩
      · have n1 := nI_neg (b := b) (by omega)
        obtain ⟨kk, hkk, ek⟩ := (b7 b hb).2
        rw [m_if_neg (fun e => n1.1 (h1.symm.trans e.1)), mi_nI hs (by omega), pk_cl s (hx := rfl), sel6 hs, b_X11_taken_41 (isSh6 hs), h1, b_X0_kindOf_0, v_hasBody _ _ _ nb (by omega) b3, mb_some, mp_some, b_X0_kindOf_5, mi_b2, m_if_pos (ix_nI hb), mi_nI (by omega) (by omega), pk_cl b (hx := rfl), (b7 b hb).1, ek, mb_some, mp_some, b_X11_taken_47, v_isUnder _ _ kk u hkk hu, mb_some, mp_some, b_X11_taken_57]
        rw [h3, m_if_neg n1.1, m_if_neg (nI_pos (by omega)), mi_nI (by omega) (by omega), pk_cl b (hx := rfl), ek, v_isUnderM _ _ kk u hkk hu, mb_some, mp_some, b_X12_taken_56, mi_nI hs (by omega), pk_cl s (hx := rfl), h3, mi_nI (by omega) (by omega), pk_cl b (hx := rfl), ek] at hM
        rw [mi_pure] at hM ⊢
        exact ⟨_, _, g, rfl, hM, hI0⟩
      · have n1 := hold_t t ht
        have n8 : ¬ ix nb (-1 : Int32) := fun h => ix_n0 h (by omega) (by decide)
        have n9 : ¬ ix 8 (-1 : Int32) := fun h => ix_n0 h (by omega) (by decide)
        have ue : ev none 1298 mm_X0_isUnder 5 [.ref 39, .int (-1), .int (nI u), .int (-1), .int 0] [] g = some (some (.int 0), g) := un_end 1297 g (-1) (nI u) 0 (by omega)
        rw [m_if_neg (fun e => n1.2.2.2.2.1 (h2.symm.trans e.2)), mi_nI hs (by omega), pk_cl s (hx := rfl), sel6 hs, b_X11_taken_41 (isSh6 hs), h1, b_X0_kindOf_0, v_hasBody _ _ _ nb (by omega) b3, mb_some, mp_some, b_X0_kindOf_5, mi_b2, m_if_neg n8, mb_some, mp_some, b_X11_taken_47, b_X0_isUnder_0, ue, mb_some, mp_some, b_X11_taken_57, m_if_pos rfl]
        rw [h4, m_if_neg n1.1, m_if_pos n1.2.1] at hM
        exact ⟨_, _, g, rfl, hM, hI0⟩
    · rw [m_if_neg h2]
      rw [m_if_neg h2] at hM
      exact ⟨_, _, g, rfl, hM, hI0⟩
  · rw [m_if_neg h]
    refine ⟨_, _, g, rfl, ?_, hI0⟩
    rw [b_X12_taken_0, v_isShelfM, mb_some, mp_some, b_X12_taken_4, mi_b2, m_if_neg h]
/-- places that a row has -/
theorem part_lt {L : Nat} (hL : L ≤ 60) {i n : Int32} (h1 : ¬ i < 0) (h2 : ¬ n < 0) : ((nI L < i ∨ nI L - i < n) ↔ (nI L - n < i)) ∧ (¬ nI L - n < i → ∃ a b, i = nI a ∧ n = nI b ∧ a + b ≤ L) := by
  obtain ⟨a, ha, e1⟩ := nI_of h1
  obtain ⟨b, hb, e2⟩ := nI_of h2
  subst e1; subst e2
  have s1 : (nI L - nI b).toInt = (L : Int) - b := by
    rw [Int32.toInt_sub, nI_toInt (by omega), nI_toInt hb]
    exact Int.bmod_eq_of_le (by omega) (by omega)
  have s2 : (nI L - nI a).toInt = (L : Int) - a := by
    rw [Int32.toInt_sub, nI_toInt (by omega), nI_toInt ha]
    exact Int.bmod_eq_of_le (by omega) (by omega)
  rw [Int32.lt_iff_toInt_lt, Int32.lt_iff_toInt_lt, Int32.lt_iff_toInt_lt, s1, s2, nI_toInt ha, nI_toInt hb, nI_toInt (by omega)]
  refine ⟨by omega, fun h => ⟨a, b, rfl, rfl, by omega⟩⟩
noncomputable def hp (L : Nat) (i n : Int32) : Prop := ¬ i < 0 ∧ ¬ n < 0 ∧ ¬ nI L - n < i
theorem v_hasPart {s : Nat} (hs : s < 6) (d : Nat) (g : mG) (i n : Int32) {L : Nat} (hL : L ≤ 60) (h : g.1 (43 + 2 * s) 3 = nI L) : ev none d mm_X7_hasPart 0 [.ref (43 + 2 * s), .int i, .int n] [] g = some (some (.int (b2 (hp L i n))), g) := by
  rw [b_X7_hasPart_0 (isSh6 hs), h]
  unfold hp
  by_cases h1 : i < 0
  · rw [m_if_pos h1, b2_f (fun e => e.1 h1)]
  by_cases h2 : n < 0
  · rw [m_if_neg h1, m_if_pos h2, b2_f (fun e => e.2.1 h2)]
  have k := (part_lt hL h1 h2).1
  rw [m_if_neg h1, m_if_neg h2]
  by_cases h3 : nI L < i
  · rw [m_if_pos h3, b2_f (fun e => e.2.2 (k.mp (Or.inl h3)))]
  rw [m_if_neg h3]
  by_cases h4 : nI L - i < n
  · rw [m_if_pos h4, b2_f (fun e => e.2.2 (k.mp (Or.inr h4)))]
  · rw [m_if_neg h4, b2_t ⟨h1, h2, fun e => (k.mpr e).elim h3 h4⟩]
theorem m_sh1 (s o i j n : Nat) (hs : s < 6) (hn : i + n ≤ 60) (d : Nat) : ∀ k c g, c + k = n → ∃ g', ev none d mm_X12_shift 113 [.ref 55, .int (nI s), .int (nI i), .int (nI o), .int (nI j), .int (nI n), .int (nI c)] [] g = ev none d mm_X12_shift 150 [.ref 55, .int (nI s), .int (nI i), .int (nI o), .int (nI j), .int (nI n), .int (nI 0)] [] g' ∧ g'.1 = g.1 ∧ ∀ a m, g'.2 a m = if a = 93 ∧ c ≤ m ∧ m < n then g.2 92 (60 * s + i + m) else g.2 a m := by
  intro k
  induction k with
  | zero =>
    intro c g h
    refine ⟨g, ?_, rfl, fun a m => (if_neg (by omega)).symm⟩
    rw [b_X12_shift_113, m_if_neg (nI_nlt (by omega) (by omega))]
    rfl
  | succ k ih =>
    intro c g h
    have ei : (60 : Int32) * nI s + nI i + nI c = nI (60 * s + i + c) := by
      rw [show (60 : Int32) = nI 60 from rfl, pk_mul, nI_add, nI_add]
    obtain ⟨g', e1, e2, e3⟩ := ih (c + 1) (m_s2 g 93 c (g.2 92 (60 * s + i + c))) (by omega)
    refine ⟨g', ?_, e2, ?_⟩
    · rw [b_X12_shift_113, m_if_pos (nI_lt (by omega) (by omega)), ei, mi_nI (by omega) (by omega), mi_nI (i := c) (by omega) (by omega), pk_cl c (hx := rfl), pk_cl (60 * s + i + c) (hx := rfl), nI_1]
      exact e1
    · intro a m
      rw [e3, s2_ne (c := 92) (by omega), s2_r]
      by_cases q : a = 93 ∧ c ≤ m ∧ m < n
      · rw [if_pos q]
        by_cases q2 : m = c
        · rw [if_neg (by omega), if_pos q.1, if_pos q2, q2]
        · rw [if_pos (by omega)]
      · rw [if_neg q, if_neg (by omega)]
        by_cases q2 : a = 93
        · rw [if_pos q2, if_neg (by omega)]
        · rw [if_neg q2]
theorem m_sh2 (s o i j n : Nat) (ho : o < 6) (hn : j + n ≤ 60) (d : Nat) : ∀ k c g, c + k = n → ∃ g', ev none d mm_X12_shift 150 [.ref 55, .int (nI s), .int (nI i), .int (nI o), .int (nI j), .int (nI n), .int (nI c)] [] g = some (some (.int (nI n)), g') ∧ g'.1 = g.1 ∧ ∀ a m, g'.2 a m = if a = 92 ∧ 60 * o + j + c ≤ m ∧ m < 60 * o + j + n then g.2 93 (m - (60 * o + j)) else g.2 a m := by
  intro k
  induction k with
  | zero =>
    intro c g h
    refine ⟨g, ?_, rfl, fun a m => (if_neg (by omega)).symm⟩
    rw [b_X12_shift_150, m_if_neg (nI_nlt (by omega) (by omega))]
  | succ k ih =>
    intro c g h
    have ei : (60 : Int32) * nI o + nI j + nI c = nI (60 * o + j + c) := by
      rw [show (60 : Int32) = nI 60 from rfl, pk_mul, nI_add, nI_add]
    obtain ⟨g', e1, e2, e3⟩ := ih (c + 1) (m_s2 g 92 (60 * o + j + c) (g.2 93 c)) (by omega)
    refine ⟨g', ?_, e2, ?_⟩
    · rw [b_X12_shift_150, m_if_pos (nI_lt (by omega) (by omega)), ei, mi_nI (i := c) (by omega) (by omega), mi_nI (by omega) (by omega), pk_cl c (hx := rfl), pk_cl (60 * o + j + c) (hx := rfl), nI_1]
      exact e1
    · intro a m
      rw [e3, s2_ne (c := 93) (by omega), s2_r]
      by_cases q : a = 92 ∧ 60 * o + j + c ≤ m ∧ m < 60 * o + j + n
      · rw [if_pos q]
        by_cases q2 : m = 60 * o + j + c
        · rw [if_neg (by omega), if_pos q.1, if_pos q2, q2, show 60 * o + j + c - (60 * o + j) = c by omega]
        · rw [if_pos (by omega)]
      · rw [if_neg q, if_neg (by omega)]
        by_cases q2 : a = 92
        · rw [if_pos q2, if_neg (by omega)]
        · rw [if_neg q2]
theorem hold_inj : ∀ t, t < 5 → ∀ u, u < 5 → ((-2 - nI t : Int32) = -2 - nI u ↔ t = u) ∧ (nI t = nI u ↔ t = u) := by decide
theorem o_shift : op_shift Inv 1299 := by
  intro g hI a1 a2 a3 a4 a5
  have hI0 := hI
  obtain ⟨n, p, nb, W, hV, hR, hC, hP, hL, hG, hB, hS⟩ := hI
  have hnb : nb ≤ 50 := by
    obtain ⟨r, b1, b2⟩ := hB
    exact b1
  have hM : ∀ g1, ev none 1299 mm_X12_shift 0 [.ref 55, .int a1, .int a2, .int a3, .int a4, .int a5, .null] [] g1 = m_if (ix 6 a1) (m_if (ix 6 a3) (ev none 1299 mm_X12_shift 11 [.ref 55, .int a1, .int a2, .int a3, .int a4, .int a5, .null] [.int 1] g1) (some (some (.int (-1)), g1))) (some (some (.int (-1)), g1)) := by
    intro g1
    rw [b_X12_shift_0, v_isShelfM, mb_some, mp_some, b_X12_shift_4, mi_b2, v_isShelfM, mb_some, mp_some]
    by_cases h : ix 6 a1
    · rw [m_if_pos h, m_if_pos h]
      by_cases h2 : ix 6 a3
      · rw [m_if_pos h2, b2_t h2]
      · rw [m_if_neg h2, b2_f h2, b_X12_shift_11, m_if_pos rfl]
    · rw [m_if_neg h, m_if_neg h]
  rw [b_X11_shift_0, v_isShelf, mb_some, mp_some, b_X11_shift_4, mi_b2]
  by_cases h : ix 6 a1
  · rw [m_if_pos h, v_isShelf, mb_some, mp_some, b_X11_shift_11, mi_b2]
    by_cases h2 : ix 6 a3
    · rw [m_if_pos h2]
      obtain ⟨s, hs, e⟩ := h
      obtain ⟨o, ho, e2⟩ := h2
      subst e; subst e2
      have hM1 : ∀ g1 : mG, ev none 1299 mm_X12_shift 0 [.ref 55, .int (nI s), .int a2, .int (nI o), .int a4, .int a5, .null] [] g1 = m_if (g1.1 90 s = -1) (some (some (.int (-11)), g1)) (m_if (g1.1 90 o = -1) (some (some (.int (-11)), g1)) (m_if (g1.1 90 s < 0) (m_if (g1.1 90 s = g1.1 90 o) (m_if (a5 < 0) (some (some (.int (-13)), g1)) (m_if (a2 < 0) (some (some (.int (-13)), g1)) (m_if (a4 < 0) (some (some (.int (-13)), g1)) (m_if (g1.1 91 s - a5 < a2) (some (some (.int (-13)), g1)) (m_if (g1.1 91 o - a5 < a4) (some (some (.int (-13)), g1)) (ev none 1299 mm_X12_shift 113 [.ref 55, .int (nI s), .int a2, .int (nI o), .int a4, .int a5, .int 0] [] g1)))))) (some (some (.int (-12)), g1))) (some (some (.int (-12)), g1)))) := by
        intro g1
        have es : ∀ x : Option (Option Value × mG), m_in (nI s) 6 x = x := fun x => mi_nI hs (by omega)
        have eo : ∀ x : Option (Option Value × mG), m_in (nI o) 6 x = x := fun x => mi_nI ho (by omega)
        rw [hM, m_if_pos (ix_nI hs), m_if_pos (ix_nI ho), b_X12_shift_11, m_if_neg (by decide)]
        simp only [es, eo, pk_cl s (hx := rfl), pk_cl o (hx := rfl)]
      rw [mi_nI ho (by omega), pk_cl o (hx := rfl), sel6 ho, b_X11_shift_22 (isSh6 ho), mi_nI hs (by omega), pk_cl s (hx := rfl), sel6 hs, b_X11_shift_28 (isSh6 ho) (isSh6 hs), b_X7_takeFrom_0 (isSh6 ho) (isSh6 hs), v_isEmpty (isSh6 ho), mb_some, mp_some, b_X7_takeFrom_4 (isSh6 ho) (isSh6 hs), mi_b2, v_isEmpty (isSh6 hs), mb_some, mp_some, b_X7_takeFrom_11 (isSh6 ho) (isSh6 hs), mi_b2]
      have bad : ∀ x : Int32, ev none 1299 mm_X12_shift 0 [.ref 55, .int (nI s), .int a2, .int (nI o), .int a4, .int a5, .null] [] g = some (some (.int x), g) → ∃ r g1 g2, m_bnd (some (some (.int x), g)) (fun r g2 => ev none 1299 mm_X11_shift 36 [.ref 0, .int (nI s), .int a2, .int (nI o), .int a4, .int a5] (m_psh r []) g2) = some (some (.int r), g1) ∧ ev none 1299 mm_X12_shift 0 [.ref 55, .int (nI s), .int a2, .int (nI o), .int a4, .int a5, .null] [] g1 = some (some (.int r), g2) ∧ Inv g2 := by
        intro x hx
        exact ⟨x, g, g, by rw [mb_some, mp_some, b_X11_shift_36], hx, hI0⟩
      rcases hS o ho with ⟨o1, o2, o3⟩ | ⟨b, hb, o1, o2, o3⟩ | ⟨t, L, ht, hL2, o1, o2, o3, o4, o5, o6, o7⟩
      · rw [m_if_pos ⟨o1, o2⟩]
        refine bad (-11) ?_
        rw [hM1]
        by_cases c : g.1 90 s = -1
        · rw [m_if_pos c]
        · rw [m_if_neg c, m_if_pos o3]
      · have n1 := nI_neg (b := b) (by omega)
        rw [m_if_neg (fun e => n1.1 (o1.symm.trans e.1))]
        rcases hS s hs with ⟨h1, h2, h3⟩ | ⟨b', hb', h1, h2, h3⟩ | ⟨t', L', ht', hL2', h1, h2, h3, h4, h5, h6, h7⟩
        · rw [m_if_pos ⟨h1, h2⟩]
          refine bad (-11) ?_
          rw [hM1, m_if_pos h3]
        · have n2 := nI_neg (b := b') (by omega)
          rw [m_if_neg (fun e => n2.1 (h1.symm.trans e.1)), m_if_pos o2]
          refine bad (-12) ?_
          rw [hM1, h3, m_if_neg n2.1, o3, m_if_neg n1.1, m_if_neg (nI_pos (by omega))]
        · have n2 := hold_t t' ht'
          rw [m_if_neg (fun e => n2.2.2.2.2.1 (h2.symm.trans e.2)), m_if_pos o2]
          refine bad (-12) ?_
          rw [hM1, h4, m_if_neg n2.1, o3, m_if_neg n1.1, m_if_pos n2.2.1, m_if_neg (fun e => by
            have := n2.2.1
            rw [e] at this
            exact nI_pos (by omega) this)]
      · have n1 := hold_t t ht
        rw [m_if_neg (fun e => n1.2.2.2.2.1 (o2.symm.trans e.2))]
        rcases hS s hs with ⟨h1, h2, h3⟩ | ⟨b', hb', h1, h2, h3⟩ | ⟨t', L', ht', hL2', h1, h2, h3, h4, h5, h6, h7⟩
        · rw [m_if_pos ⟨h1, h2⟩]
          refine bad (-11) ?_
          rw [hM1, m_if_pos h3]
        · have n2 := nI_neg (b := b') (by omega)
          rw [m_if_neg (fun e => n2.1 (h1.symm.trans e.1)), o2, m_if_neg n1.2.2.2.2.1, h2, m_if_neg n1.2.2.2.2.1]
          refine bad (-12) ?_
          rw [hM1, h3, m_if_neg n2.1, o4, m_if_neg n1.1, m_if_neg (nI_pos (by omega))]
        · have n2 := hold_t t' ht'
          rw [m_if_neg (fun e => n2.2.2.2.2.1 (h2.symm.trans e.2)), o2, m_if_neg n1.2.2.2.2.1, h2]
          by_cases et : t = t'
          · subst et
            rw [m_if_pos rfl, v_hasPart hs _ _ _ _ hL2' h3, mb_some, mp_some, b_X7_takeFrom_46 (isSh6 ho) (isSh6 hs), mi_b2, v_hasPart ho _ _ _ _ hL2 o3, mb_some, mp_some, b_X7_takeFrom_56 (isSh6 ho) (isSh6 hs), mi_b2]
            have hM2 : ∀ g1 : mG, g1.1 = g.1 → ev none 1299 mm_X12_shift 0 [.ref 55, .int (nI s), .int a2, .int (nI o), .int a4, .int a5, .null] [] g1 = m_if (a5 < 0) (some (some (.int (-13)), g1)) (m_if (a2 < 0) (some (some (.int (-13)), g1)) (m_if (a4 < 0) (some (some (.int (-13)), g1)) (m_if (nI L' - a5 < a2) (some (some (.int (-13)), g1)) (m_if (nI L - a5 < a4) (some (some (.int (-13)), g1)) (ev none 1299 mm_X12_shift 113 [.ref 55, .int (nI s), .int a2, .int (nI o), .int a4, .int a5, .int 0] [] g1))))) := by
              intro g1 e1
              rw [hM1, e1, h4, o4, h5, o5, m_if_neg n1.1, m_if_neg n1.1, m_if_pos n1.2.1, m_if_pos rfl]
            by_cases p1 : hp L' a2 a5
            · rw [m_if_pos p1]
              by_cases p2 : hp L a4 a5
              · rw [m_if_pos p2]
                obtain ⟨i, N, ei, en, hi⟩ := (part_lt hL2' p1.1 p1.2.1).2 p1.2.2
                obtain ⟨j, N2, ej, en2, hj⟩ := (part_lt hL2 p2.1 p2.2.1).2 p2.2.2
                subst ei; subst ej; subst en
                have eN : N = N2 := by
                  obtain ⟨x, hx, ex⟩ := nI_of p1.2.1
                  by_cases c : N < 2 ^ 31 ∧ N2 < 2 ^ 31
                  · exact (nI_eq c.1 c.2).mp en2
                  · omega
                subst eN
                rw [pk_cl i (hx := rfl), pk_cl j (hx := rfl), pk_cl N (hx := rfl), if_neg (by
                  intro q
                  rcases q with q | q | q | q | q | q
                  · exact nI_pos (by omega) q
                  · exact nI_pos (by omega) q
                  · exact nI_pos (by omega) q
                  · omega
                  · omega
                  · exact q rfl), b_X7_takeFrom_77 (isSh6 ho) (isSh6 hs), mb_some, mp_some, b_X11_shift_36]
                obtain ⟨g1, e1, e2, e3⟩ := m_sh1 s o i j N hs (by omega) 1299 N 0 (m_cp g (44 + 2 * s) (44 + 2 * o) i j N) (by omega)
                obtain ⟨g2, f1, f2, f3⟩ := m_sh2 s o i j N ho (by omega) 1299 N 0 g1 (by omega)
                refine ⟨_, _, g2, rfl, ?_, ?_⟩
                · rw [hM2 (m_cp g (44 + 2 * s) (44 + 2 * o) i j N) rfl, m_if_neg p1.2.1, m_if_neg p1.1, m_if_neg p2.1, m_if_neg p1.2.2, m_if_neg p2.2.2]
                  exact e1.trans f1
                · have c2 : ∀ a m, (m_cp g (44 + 2 * s) (44 + 2 * o) i j N).2 a m = if a = 44 + 2 * o then va_cpy (g.2 (44 + 2 * s)) (g.2 (44 + 2 * o)) i j N m else g.2 a m := by
                    intro a m
                    unfold m_cp
                    dsimp only
                    by_cases q : a = 44 + 2 * o
                    · rw [if_pos q, if_pos q]
                    · rw [if_neg q, if_neg q]
                  have z1 : g2.1 = g.1 := f2.trans e2
                  have z2 : ∀ a m, g2.2 a m = if a = 92 ∧ 60 * o + j ≤ m ∧ m < 60 * o + j + N then g.2 92 (60 * s + i + (m - (60 * o + j))) else if a = 93 ∧ m < N then g.2 92 (60 * s + i + m) else if a = 44 + 2 * o then va_cpy (g.2 (44 + 2 * s)) (g.2 (44 + 2 * o)) i j N m else g.2 a m := by
                    intro a m
                    rw [f3]
                    by_cases q : a = 92 ∧ 60 * o + j ≤ m ∧ m < 60 * o + j + N
                    · rw [if_pos (by omega), if_pos q, e3, if_pos (by omega), c2, if_neg (by omega)]
                    · rw [if_neg (by omega), if_neg q, e3]
                      by_cases q2 : a = 93 ∧ m < N
                      · rw [if_pos (by omega), if_pos q2, c2, if_neg (by omega)]
                      · rw [if_neg (by omega), if_neg q2, c2]
                  have zs : ∀ a, a ≠ 92 → a ≠ 93 → a ≠ 44 + 2 * o → ∀ m, g2.2 a m = g.2 a m := by
                    intro a q1 q2 q3 m
                    rw [z2, if_neg (by omega), if_neg (by omega), if_neg q3]
                  have hold : ∀ k, g2.1 k = g.1 k := fun k => by rw [z1]
                  have S2 : I_S nb g2 := by
                    refine S_upd (s := o) hS ?_ ?_
                    · intro s' hs' ne
                      refine ⟨fun k => by rw [z1], by rw [z1], by rw [z1], zs _ (by omega) (by omega) (by omega), fun m hm => ?_⟩
                      rw [z2, if_neg (by omega), if_neg (by omega), if_neg (by omega)]
                    · rw [z1]
                      have w1 : ∀ m, m < L → g2.2 (44 + 2 * o) m = if j ≤ m ∧ m < j + N then g.2 (44 + 2 * s) (i + (m - j)) else g.2 (44 + 2 * o) m := by
                        intro m hm
                        rw [z2, if_neg (by omega), if_neg (by omega), if_pos rfl]
                        by_cases q : j ≤ m ∧ m < j + N
                        · rw [if_pos q, pk_cpy_in q.1 q.2]
                        · rw [if_neg q, pk_cpy_out (by omega)]
                      refine Or.inr (Or.inr ⟨t, L, ht, hL2, o1, o2, o3, o4, o5, fun m hm => ?_, fun e0 m hm => ?_⟩)
                      · rw [w1 m hm, z2]
                        by_cases q : j ≤ m ∧ m < j + N
                        · rw [if_pos q, if_pos (by omega), h6 _ (by omega), show 60 * s + (i + (m - j)) = 60 * s + i + (60 * o + m - (60 * o + j)) by omega]
                        · rw [if_neg q, if_neg (by omega), if_neg (by omega), if_neg (by omega), o6 m hm]
                      · rw [w1 m hm]
                        by_cases q : j ≤ m ∧ m < j + N
                        · rw [if_pos q]; exact h7 e0 _ (by omega)
                        · rw [if_neg q]; exact o7 e0 m hm
                  have F1 : Fr (fun c k => sS c k || c == 93) g g2 := by
                    refine ⟨fun c k _ => by rw [z1], fun c k hc => ?_⟩
                    have hc' := Bool.or_eq_false_iff.mp hc
                    refine zs c ?_ ?_ ?_ k
                    · intro q; rw [q] at hc'; exact absurd hc'.1 (by simp [sS])
                    · intro q; rw [q] at hc'; exact absurd hc'.2 (by decide)
                    · intro q
                      rw [q, (sS43 ho).2] at hc'
                      exact absurd hc'.1 (by decide)
                  have F2 : Fr sAS g g2 := fr_mono F1 (fun c k e => by
                    have e' := Bool.or_eq_false_iff.mp (show (sA c k || sS c k) = false from e)
                    rw [Bool.or_eq_false_iff]
                    refine ⟨e'.2, ?_⟩
                    by_cases q : c = 93
                    · rw [q] at e'; exact absurd e'.1 (by simp [sA])
                    · simp [q])
                  exact ⟨n, p, nb, W, V_fr F2 hV, RX_fr F2 hR, C_fr F2 hC, P_fr F2 hP, L_fr F2 hL, G_fr F2 hG, B_fr F2 hB, S2⟩
              · rw [m_if_neg p2]
                refine bad (-13) ?_
                rw [hM2 g rfl, m_if_neg p1.2.1, m_if_neg p1.1]
                by_cases c1 : a4 < 0
                · rw [m_if_pos c1]
                · rw [m_if_neg c1, m_if_neg p1.2.2, m_if_pos (Decidable.byContradiction (fun c2 => p2 ⟨c1, p1.2.1, c2⟩))]
            · rw [m_if_neg p1]
              refine bad (-13) ?_
              rw [hM2 g rfl]
              by_cases c0 : a5 < 0
              · rw [m_if_pos c0]
              rw [m_if_neg c0]
              by_cases c1 : a2 < 0
              · rw [m_if_pos c1]
              rw [m_if_neg c1]
              by_cases c2 : a4 < 0
              · rw [m_if_pos c2]
              · rw [m_if_neg c2, m_if_pos (Decidable.byContradiction (fun c3 => p1 ⟨c1, c0, c3⟩))]
          · rw [m_if_neg (fun e => et (((hold_inj t ht t' ht').2).mp e))]
            refine bad (-12) ?_
            rw [hM1, h4, m_if_neg n2.1, o4, m_if_neg n1.1, m_if_pos n2.2.1, m_if_neg (fun e => et (((hold_inj t' ht' t ht).1).mp e).symm)]
    · rw [m_if_neg h2]
      exact ⟨_, _, g, rfl, by rw [hM, m_if_pos h, m_if_neg h2], hI0⟩
  · rw [m_if_neg h]
    exact ⟨_, _, g, rfl, by rw [hM, m_if_neg h], hI0⟩
