/-! IN THOUGHT (2): how soon, what was seen, what is rued -/
/-- where one may be, day by day -/
noncomputable def plS (H : Nat → Nat → Prop) (P0 : Nat) : Nat → Nat
  | 0 => 2 ^ P0
  | k + 1 => dfr (H k) (plS H P0 k)
theorem pow_25 {P0 : Nat} (h : P0 < 25) : 2 ^ P0 < 2 ^ 25 := Nat.pow_lt_pow_right (by omega) h
theorem plS_lt {H : Nat → Nat → Prop} {P0 : Nat} (h : P0 < 25) : ∀ k, plS H P0 k < 2 ^ 25 := by
  intro k
  cases k with
  | zero => exact pow_25 h
  | succ k => exact dfr_lt _ _
theorem x_spread {W : mW} {p : Nat} {h : mH} {one D : Nat} {g : mG} (hT : TH W p h one D g) (d : Nat) (k P : Nat) (hk : k ≤ D) (hP : P < 2 ^ 25) : ev none d mm_X11_spread 0 [.int (nI P), .int (g.1 20 k), .null, .null, .null, .null, .null] [] g = some (some (.int (nI (dfr (HH W p h one k) P))), g) := by
  rw [hT.2 k hk, v_spread _ _ _ _ hP, spr_dfr _ _ hP]
theorem m_dayF {W : mW} {n p : Nat} {h : mH} {g : mG} (hM : MC W n p h g) (d : Nat) (one k P : Nat) (hP : P < 2 ^ 25) : Ok (ev none (d + 7) mm_X12_dayFrom 0 [.ref 55, .int (nI one), .int (nI P), .int (dy (h 55 14) (nI k)), .null, .null, .null] [] g) (fun r g2 => r = some (.int (nI (dfr (HH W p h one k) P))) ∧ Fr s1 g g2) := m_dayFrom hM d (nI one) _ P hP
/-- the first day -/
def FD (H : Nat → Nat → Prop) (P0 there K : Nat) : Prop := K ≤ 21 ∧ (∀ k, k < K → ¬ (plS H P0 k).testBit there = true) ∧ (K = 21 ∨ (plS H P0 K).testBit there = true)
theorem FD_ex (H : Nat → Nat → Prop) (P0 there : Nat) : ∃ K, FD H P0 there K := by
  obtain ⟨K, h1, h2⟩ := pk_least (fun k => k = 21 ∨ (plS H P0 k).testBit there = true) ⟨21, Or.inl rfl⟩
  exact ⟨K, Decidable.byContradiction (fun c => h2 21 (by omega) (Or.inl rfl)), fun k hk c => h2 k hk (Or.inr c), h1⟩
def soA (K : Nat) : Int32 := if K = 21 then -2 else nI K
theorem o_soonest : op_soonest Inv 1299 := by
  intro g hI a1 a2
  obtain ⟨n, p, W, hX, hM⟩ := inv_C hI
  have hn : n ≤ 6 := hX.1.1
  have hp : p ≤ 12 := hX.1.2.1
  by_cases h0 : ix n a1
  · by_cases h1 : ix 25 a2
    · obtain ⟨one, ho, e⟩ := h0
      subst e
      obtain ⟨there, hth, e⟩ := h1
      subst e
      obtain ⟨P0, hP0, hp0⟩ := (hX.1.2.2.2.2.1 one ho).1
      obtain ⟨K, k1, k2, k3⟩ := FD_ex (HH W p g.1 one) P0 there
      refine op_th (soA K) hI ?_ ?_
      · rw [b_X11_soonest_0, v_hasPerson _ g _ n (by omega) hX.2.1.1, mb_some, mp_some, b_X11_soonest_8, mi_b2, m_if_pos (ix_nI ho), v_isPlace, mb_some, mp_some, b_X11_soonest_15, mi_b2, m_if_pos (ix_nI hth), b_X10_daysTo_0]
        have th : Ok (ev none 1297 mm_X10_thinkOf 0 [.ref 19, .int (nI one), .int 20, .null, .null] [] g) (fun r g2 => r = none ∧ Fr sA g g2 ∧ TH W p g.1 one 20 g2) := x_thinkOf hX 1292 one 20 ho (by omega)
        have main : Ok (m_bnd (ev none 1297 mm_X10_thinkOf 0 [.ref 19, .int (nI one), .int 20, .null, .null] [] g) (fun r g2 => ev none 1298 mm_X10_daysTo 7 [.ref 19, .int (nI one), .int (nI there), .null, .null] (m_psh r []) g2)) (fun r g2 => r = some (.int (soA K)) ∧ Fr sA g g2) := by
          refine ok_bnd th ?_
          intro r g1 ⟨hr, F1, hT⟩
          subst hr
          have hX1 := XR_fr F1 hX
          rw [mp_none, b_X10_daysTo_7, hT.1, mi_nI (by omega) (by omega), pk_cl one (hx := rfl), (hX1.2.1.2.2.1 one (by omega)).1, hp0, t_sh1 P0 (by omega)]
          refine ok_loop (E := fun e (a : Nat) g => ev none 1298 mm_X10_daysTo 25 [.ref 19, .int (nI one), .int (nI there), .int (nI a), .int (nI e)] [] g) (I := fun e a g3 => a = plS (HH W p g.1 one) P0 e ∧ g3 = g1) (P := K) ?_ ?_ 0 (2 ^ P0) g1 (by omega) ⟨rfl, rfl⟩
          · intro e a g3 he ⟨ha, hg⟩ next
            subst hg
            subst ha
            have hlt := plS_lt (H := HH W p g.1 one) hP0 e
            show Ok (ev none 1298 mm_X10_daysTo 25 [.ref 19, .int (nI one), .int (nI there), .int (nI (plS (HH W p g.1 one) P0 e)), .int (nI e)] [] g3) _
            rw [b_X10_daysTo_25, m_if_neg (show ¬ 20 < nI e from nI_nlt (a := 20) (by omega) (by omega)), v_hasBit _ _ _ there (by omega) (by omega), mb_some, mp_some, b_X10_daysTo_37, mi_b2, m_if_neg (k2 e he), mi_nI (by omega) (by omega), pk_cl e (hx := rfl), x_spread hT _ e _ (by omega) hlt, mb_some, mp_some, b_X10_daysTo_54, nI_1]
            exact next _ _ ⟨rfl, rfl⟩
          · intro a g3 ⟨ha, hg⟩
            subst hg
            subst ha
            have hlt := plS_lt (H := HH W p g.1 one) hP0 K
            show Ok (ev none 1298 mm_X10_daysTo 25 [.ref 19, .int (nI one), .int (nI there), .int (nI (plS (HH W p g.1 one) P0 K)), .int (nI K)] [] g3) _
            unfold soA
            by_cases c : K = 21
            · subst c
              rw [b_X10_daysTo_25, m_if_pos (show (20 : Int32) < nI 21 by decide), if_pos rfl]
              exact ok_some ⟨rfl, F1⟩
            · rw [b_X10_daysTo_25, m_if_neg (show ¬ 20 < nI K from nI_nlt (a := 20) (by omega) (by omega)), v_hasBit _ _ _ there (by omega) (by omega), mb_some, mp_some, b_X10_daysTo_37, mi_b2, m_if_pos (k3.resolve_left c), if_neg c]
              exact ok_some ⟨rfl, F1⟩
        refine ok_bnd main ?_
        intro r g2 ⟨hr, F⟩
        subst hr
        rw [mp_some, b_X11_soonest_29]
        exact ok_some ⟨rfl, F⟩
      · intro g1 F1
        have hM1 := MC_fr F1 hM
        rw [b_X12_soonest_0, v_isOne _ _ _ n (by omega) (MC_n hM1), mb_some, mp_some, b_X12_soonest_5, mi_b2, m_if_pos (ix_nI ho), v_isPlaceOf, mb_some, mp_some, b_X12_soonest_12, mi_b2, m_if_pos (ix_nI hth), mi_nI (by omega) (by omega), pk_cl one (hx := rfl), (hM1.2.1.2.2.2.2 one).1, hp0, t_sh1 P0 (by omega)]
        refine ok_loop (E := fun e (a : Nat) g => ev none 1299 mm_X12_soonest 29 [.ref 55, .int (nI one), .int (nI there), .int (nI a), .int (nI e)] [] g) (I := fun e a g3 => a = plS (HH W p g.1 one) P0 e ∧ Fr sA g1 g3) (P := K) ?_ ?_ 0 (2 ^ P0) g1 (by omega) ⟨rfl, fr_refl⟩
        · intro e a g3 he ⟨ha, hg⟩ next
          subst ha
          have hM3 := MC_fr hg hM1
          have hlt := plS_lt (H := HH W p g.1 one) hP0 e
          show Ok (ev none 1299 mm_X12_soonest 29 [.ref 55, .int (nI one), .int (nI there), .int (nI (plS (HH W p g.1 one) P0 e)), .int (nI e)] [] g3) _
          rw [b_X12_soonest_29, m_if_neg (show ¬ 20 < nI e from nI_nlt (a := 20) (by omega) (by omega)), v_has _ _ _ there (by omega) (by omega), mb_some, mp_some, b_X12_soonest_41, mi_b2, m_if_neg (k2 e he), v_dayOn, mb_some, mp_some, b_X12_soonest_56, hM3.2.1.2.2.2.1]
          refine ok_bnd (m_dayF hM3 _ one e _ hlt) ?_
          intro r g4 ⟨hr, F4⟩
          subst hr
          rw [mp_some, b_X12_soonest_59, nI_1]
          exact next _ _ ⟨rfl, fr_trans hg (fr_1A F4)⟩
        · intro a g3 ⟨ha, hg⟩
          subst ha
          have hlt := plS_lt (H := HH W p g.1 one) hP0 K
          show Ok (ev none 1299 mm_X12_soonest 29 [.ref 55, .int (nI one), .int (nI there), .int (nI (plS (HH W p g.1 one) P0 K)), .int (nI K)] [] g3) _
          unfold soA
          by_cases c : K = 21
          · subst c
            rw [b_X12_soonest_29, m_if_pos (show (20 : Int32) < nI 21 by decide), if_pos rfl]
            exact ok_some ⟨rfl, hg⟩
          · rw [b_X12_soonest_29, m_if_neg (show ¬ 20 < nI K from nI_nlt (a := 20) (by omega) (by omega)), v_has _ _ _ there (by omega) (by omega), mb_some, mp_some, b_X12_soonest_41, mi_b2, m_if_pos (k3.resolve_left c), if_neg c]
            exact ok_some ⟨rfl, hg⟩
    · refine op_bad (-1) hI ?_ ?_
      · rw [b_X11_soonest_0, v_hasPerson _ g _ n (by omega) hX.2.1.1, mb_some, mp_some, b_X11_soonest_8, mi_b2, m_if_pos h0, v_isPlace, mb_some, mp_some, b_X11_soonest_15, mi_b2, m_if_neg h1]
      · rw [b_X12_soonest_0, v_isOne _ _ _ n (by omega) (MC_n hM), mb_some, mp_some, b_X12_soonest_5, mi_b2, m_if_pos h0, v_isPlaceOf, mb_some, mp_some, b_X12_soonest_12, mi_b2, m_if_neg h1]
  · refine op_bad (-1) hI ?_ ?_
    · rw [b_X11_soonest_0, v_hasPerson _ g _ n (by omega) hX.2.1.1, mb_some, mp_some, b_X11_soonest_8, mi_b2, m_if_neg h0]
    · rw [b_X12_soonest_0, v_isOne _ _ _ n (by omega) (MC_n hM), mb_some, mp_some, b_X12_soonest_5, mi_b2, m_if_neg h0]
/-- the places that a look allows -/
noncomputable def sea (v : Int32) : Nat := if v = 99 then 33554431 else @ite _ (ix 25 v) (Classical.propDecidable _) (2 ^ v.toNatClampNeg) 0
theorem sea_lt (v : Int32) : sea v < 2 ^ 25 := by
  unfold sea
  by_cases c : v = 99
  · rw [if_pos c]; omega
  · rw [if_neg c]
    by_cases c2 : ix 25 v
    · rw [if_pos c2]
      exact pow_25 (ix_cl c2 (by omega)).1
    · rw [if_neg c2]; omega
theorem v_seen (d : Nat) (g : mG) (v : Int32) : ev none (d + 1) mm_X10_placesSeen 0 [.int v] [] g = some (some (.int (nI (sea v))), g) := by
  rw [b_X10_placesSeen_0, v_isPlace, mb_some, mp_some, b_X10_placesSeen_13, mi_b2]
  unfold sea
  by_cases c : v = 99
  · rw [m_if_pos c, if_pos c]; rfl
  · rw [m_if_neg c, if_neg c]
    by_cases c2 : ix 25 v
    · rw [m_if_pos c2, if_pos c2]
      have := ix_cl c2 (by omega)
      rw [← this.2, t_sh1 _ (by omega), this.2]
    · rw [m_if_neg c2, if_neg c2]; rfl
noncomputable def fiS (H : Nat → Nat → Prop) (f : Nat → Int32) (P0 : Nat) : Nat → Nat
  | 0 => 2 ^ P0
  | k + 1 => dfr (H k) (fiS H f P0 k &&& sea (f k))
theorem fiS_lt {H : Nat → Nat → Prop} {f : Nat → Int32} {P0 : Nat} (h : P0 < 25) : ∀ k, fiS H f P0 k < 2 ^ 25 := by
  intro k
  cases k with
  | zero => exact pow_25 h
  | succ k => exact dfr_lt _ _
theorem dfr_0 (H : Nat → Prop) : dfr H 0 = 0 := bts_0.mpr (fun i _ ⟨q, _, hq, _⟩ => by
  rw [Nat.zero_testBit] at hq
  exact absurd hq (by decide))
theorem dfr_ne {H : Nat → Prop} {P : Nat} (hP : P < 2 ^ 25) (h : P ≠ 0) : dfr H P ≠ 0 := by
  obtain ⟨q, hq⟩ := Nat.exists_testBit_of_ne_zero h
  intro e
  have hq25 := tb_lt hP hq
  by_cases c : H q
  · exact bts_0.mp e q hq25 ⟨q, hq25, hq, Or.inl ⟨c, rfl⟩⟩
  · exact bts_0.mp e q hq25 ⟨q, hq25, hq, Or.inr ⟨c, 4, by omega, rfl⟩⟩
theorem fiS_z {H : Nat → Nat → Prop} {f : Nat → Int32} {P0 k : Nat} (h : fiS H f P0 k &&& sea (f k) = 0) : ∀ j, fiS H f P0 (k + 1 + j) = 0 := by
  intro j
  induction j with
  | zero =>
    show dfr (H k) (fiS H f P0 k &&& sea (f k)) = 0
    rw [h, dfr_0]
  | succ j ih =>
    show dfr (H (k + 1 + j)) (fiS H f P0 (k + 1 + j) &&& _) = 0
    rw [ih, Nat.zero_and, dfr_0]
theorem min_31 {L : Nat} (hL : L ≤ 60) : (if nI L < 31 then nI L else (31 : Int32)) = nI (if L < 31 then L else 31) := by
  by_cases c : L < 31
  · rw [if_pos (show nI L < 31 from nI_lt (b := 31) c (by omega)), if_pos c]
  · rw [if_neg (show ¬ nI L < 31 from nI_nlt (b := 31) (by omega) (by omega)), if_neg c]; rfl
theorem x_fits {W : mW} {n p : Nat} {h : mH} {g : mG} (hX : XR W n p h g) {s L : Nat} {f : Nat → Int32} (hs : s < 6) (hR : RW s L f g) (d : Nat) (one P0 : Nat) (h1 : one < n) (hP0 : P0 < 25) (hp0 : h 56 one = nI P0) : Ok (ev none (d + 6) mm_X10_fits 0 [.ref 19, .ref (43 + 2 * s), .int (nI one), .null, .null, .null] [] g) (fun r g2 => r = some (.int (b2 (fiS (HH W p h one) f P0 (if L < 31 then L else 31) ≠ 0))) ∧ Fr sA g g2) := by
  have hn : n ≤ 6 := hX.1.1
  rw [b_X10_fits_0 (isSh6 hs), hR.2.1, min_31 hR.1, b_X10_fits_9 (isSh6 hs)]
  have hlk : (if L < 31 then L else 31) ≤ 31 ∧ (if L < 31 then L else 31) ≤ L := by split <;> omega
  generalize (if L < 31 then L else 31) = lk at hlk ⊢
  refine ok_bnd (x_thinkOf hX d one lk h1 (by omega)) ?_
  intro r g1 ⟨hr, F1, hT⟩
  subst hr
  have hX1 := XR_fr F1 hX
  have hR1 := RW_fr hs F1 hR
  rw [mp_none, b_X10_fits_16 (isSh6 hs), hT.1, mi_nI (by omega) (by omega), pk_cl one (hx := rfl), (hX1.2.1.2.2.1 one (by omega)).1, hp0, t_sh1 P0 (by omega)]
  refine ok_loop (E := fun e (a : Nat) g => ev none (d + 6) mm_X10_fits 35 [.ref 19, .ref (43 + 2 * s), .int (nI one), .int (nI lk), .int (nI a), .int (nI e)] [] g) (I := fun e a g3 => a = fiS (HH W p h one) f P0 e ∧ g3 = g1) (P := lk) ?_ ?_ 0 (2 ^ P0) g1 (by omega) ⟨rfl, rfl⟩
  · intro e a g3 he ⟨ha, hg⟩ next
    subst hg
    subst ha
    have hlt := fiS_lt (H := HH W p h one) (f := f) hP0 e
    have hq : fiS (HH W p h one) f P0 e &&& sea (f e) < 2 ^ 25 := Nat.lt_of_le_of_lt Nat.and_le_left hlt
    show Ok (ev none (d + 6) mm_X10_fits 35 [.ref 19, .ref (43 + 2 * s), .int (nI one), .int (nI lk), .int (nI (fiS (HH W p h one) f P0 e)), .int (nI e)] [] g3) _
    rw [b_X10_fits_35 (isSh6 hs), m_if_pos (nI_lt he (by omega)), x_num hs hR1 _ e (by omega), mb_some, mp_some, b_X10_fits_49 (isSh6 hs), v_seen, mb_some, mp_some, b_X10_fits_52 (isSh6 hs), mi_nI (by omega) (by omega), pk_cl e (hx := rfl), t_and, x_spread hT _ e _ (by omega) hq, mb_some, mp_some, b_X10_fits_67 (isSh6 hs), nI_1]
    exact next _ _ ⟨rfl, rfl⟩
  · intro a g3 ⟨ha, hg⟩
    subst hg
    subst ha
    have hlt := fiS_lt (H := HH W p h one) (f := f) hP0 lk
    show Ok (ev none (d + 6) mm_X10_fits 35 [.ref 19, .ref (43 + 2 * s), .int (nI one), .int (nI lk), .int (nI (fiS (HH W p h one) f P0 lk)), .int (nI lk)] [] g3) _
    rw [b_X10_fits_35 (isSh6 hs), m_if_neg (nI_nlt (Nat.le_refl _) (by omega)), mi_ft]
    refine ok_some ⟨?_, F1⟩
    congr 2
    refine b2_c ?_
    rw [show (0 : Int32) = nI 0 from rfl, nI_eq (by omega) (by omega)]
theorem m_canBe {W : mW} {n p : Nat} {h : mH} {g : mG} (hM : MC W n p h g) {s L : Nat} {f : Nat → Int32} (hs : s < 6) (hR : RW s L f g) (d : Nat) (one P0 : Nat) (h1 : one < n) (hP0 : P0 < 25) (hp0 : h 56 one = nI P0) : Ok (ev none (d + 8) mm_X12_canBe 0 [.ref 55, .int (nI s), .int (nI one), .null, .null, .null] [] g) (fun r g2 => r = some (.int (b2 (fiS (HH W p h one) f P0 (if L < 31 then L else 31) ≠ 0))) ∧ Fr sA g g2) := by
  have hn : n ≤ 6 := hM.1.1
  have hL := hR.1
  have hlk : (if L < 31 then L else 31) ≤ 31 ∧ (if L < 31 then L else 31) ≤ L ∧ ((if L < 31 then L else 31) = 31 ∨ (if L < 31 then L else 31) = L) := by split <;> omega
  generalize (if L < 31 then L else 31) = lk at hlk ⊢
  rw [b_X12_canBe_0, mi_nI (by omega) (by omega), pk_cl one (hx := rfl), (hM.2.1.2.2.2.2 one).1, hp0, t_sh1 P0 (by omega)]
  refine ok_loop (E := fun e (a : Nat × Value) g => ev none (d + 8) mm_X12_canBe 12 [.ref 55, .int (nI s), .int (nI one), .int (nI a.1), .int (nI e), a.2] [] g) (I := fun e a g3 => a.1 = fiS (HH W p h one) f P0 e ∧ a.1 ≠ 0 ∧ Fr sA g g3) (P := lk) ?_ ?_ 0 (2 ^ P0, .null) g (by omega) ⟨rfl, Nat.ne_of_gt (Nat.two_pow_pos P0), fr_refl⟩
  · intro e ⟨a, v5⟩ g3 he ⟨ha, hne, hg⟩ next
    dsimp only at ha hne
    subst ha
    have hM3 := MC_fr hg hM
    have hR3 := RW_fr hs hg hR
    have hlt := fiS_lt (H := HH W p h one) (f := f) hP0 e
    have hq : fiS (HH W p h one) f P0 e &&& sea (f e) < 2 ^ 25 := Nat.lt_of_le_of_lt Nat.and_le_left hlt
    have c65 : ∀ v6 : Int32, Ok (ev none (d + 8) mm_X12_canBe 65 [.ref 55, .int (nI s), .int (nI one), .int (nI (fiS (HH W p h one) f P0 e &&& sea (f e))), .int (nI e), .int v6] [] g3) (fun r g2 => r = some (.int (b2 (fiS (HH W p h one) f P0 lk ≠ 0))) ∧ Fr sA g g2) := by
      intro v6
      rw [b_X12_canBe_65]
      by_cases c : fiS (HH W p h one) f P0 e &&& sea (f e) = 0
      · have z := fiS_z c (lk - (e + 1))
        rw [show e + 1 + (lk - (e + 1)) = lk by omega] at z
        rw [c, m_if_pos (show nI 0 = 0 from rfl), z, b2_f (fun q => q rfl)]
        exact ok_some ⟨rfl, hg⟩
      · rw [m_if_neg (nI_ne0 (by omega) (by omega)), v_dayOn, mb_some, mp_some, b_X12_canBe_80, hM3.2.1.2.2.2.1]
        refine ok_bnd (m_dayF hM3 _ one e _ hq) ?_
        intro r g4 ⟨hr, F4⟩
        subst hr
        rw [mp_some, b_X12_canBe_83, nI_1]
        exact next (_, .int v6) _ ⟨rfl, dfr_ne hq c, fr_trans hg (fr_1A F4)⟩
    show Ok (ev none (d + 8) mm_X12_canBe 12 [.ref 55, .int (nI s), .int (nI one), .int (nI (fiS (HH W p h one) f P0 e)), .int (nI e), v5] [] g3) _
    rw [b_X12_canBe_12, m_if_pos (show nI e < 31 from nI_lt (b := 31) (by omega) (by omega)), mi_nI hs (by omega), pk_cl s (hx := rfl), hR3.2.2.1, m_if_pos (nI_lt (by omega) (by omega)), m_at hs hR3 _ e (by omega), mb_some, mp_some, b_X12_canBe_37]
    refine ok_if (fun c => ?_) (fun c => ?_)
    · have e99 : fiS (HH W p h one) f P0 e &&& sea (f e) = fiS (HH W p h one) f P0 e := by
        unfold sea
        rw [if_pos c]
        refine Nat.eq_of_testBit_eq (fun i => ?_)
        rw [Nat.testBit_and]
        by_cases hi : i < 25
        · rw [all_bit i hi, Bool.and_true]
        · rw [tb_hi hlt (by omega)]; rfl
      have := c65 (f e)
      rw [e99] at this
      exact this
    · rw [v_isPlaceOf, mb_some, mp_some, b_X12_canBe_52, mi_b2]
      have e2 := c65 (f e)
      unfold sea at e2
      rw [if_neg c] at e2
      refine ok_if (fun c2 => ?_) (fun c2 => ?_)
      · have i2 := ix_cl c2 (by omega)
        rw [if_pos c2] at e2
        have e3 : (1 : Int32) <<< (f e &&& 31) = nI (2 ^ (f e).toNatClampNeg) := by
          have := t_sh1 (f e).toNatClampNeg (by omega)
          rw [i2.2] at this
          exact this
        rw [b_X12_canBe_63, e3, t_and]
        exact e2
      · rw [if_neg c2] at e2
        rw [b_X12_canBe_63, show (0 : Int32) = nI 0 from rfl, t_and]
        exact e2
  · intro ⟨a, v5⟩ g3 ⟨ha, hne, hg⟩
    dsimp only at ha hne
    subst ha
    have hR3 := RW_fr hs hg hR
    show Ok (ev none (d + 8) mm_X12_canBe 12 [.ref 55, .int (nI s), .int (nI one), .int (nI (fiS (HH W p h one) f P0 lk)), .int (nI lk), v5] [] g3) _
    rw [b_X12_canBe_12, b2_t hne]
    refine ok_if (fun c => ?_) (fun c => ok_some ⟨rfl, hg⟩)
    have c' : lk < 31 := (nI_ltI (b := 31) (by omega) (by omega)).mp c
    rw [mi_nI hs (by omega), pk_cl s (hx := rfl), hR3.2.2.1, m_if_neg (nI_nlt (by omega) (by omega))]
    exact ok_some ⟨rfl, hg⟩
theorem o_can : op_can Inv 1299 := by
  intro g hI a1 a2
  obtain ⟨n, p, W, nb, hX, hM, hnb, hS⟩ := inv_SC hI
  have hn : n ≤ 6 := hX.1.1
  have hp : p ≤ 12 := hX.1.2.1
  by_cases h0 : ix 6 a1
  · by_cases h1 : ix n a2
    · obtain ⟨s, hs, e⟩ := h0
      subst e
      obtain ⟨one, ho, e⟩ := h1
      subst e
      obtain ⟨P0, hP0, hp0⟩ := (hX.1.2.2.2.2.1 one ho).1
      rw [b_X11_can_0, v_isShelf, mb_some, mp_some, b_X11_can_4, mi_b2, m_if_pos (ix_nI hs), v_hasPerson _ g _ n (by omega) hX.2.1.1, mb_some, mp_some, b_X11_can_15, mi_b2, m_if_pos (ix_nI ho), mi_nI hs (by omega), pk_cl s (hx := rfl), sel6 hs, b_X11_can_26 (isSh6 hs), v_refusal hs hnb _ _ hS, mb_some, mp_some, b_X11_can_29]
      have hMh : ∀ g1 : mG, MC W n p g.1 g1 → ev none 1299 mm_X12_can 0 [.ref 55, .int (nI s), .int (nI one)] [] g1 = ev none 1299 mm_X12_can 22 [.ref 55, .int (nI s), .int (nI one)] [.int (rf (g1.1 90 s))] g1 := by
        intro g1 hM1
        rw [b_X12_can_0, v_isShelfM, mb_some, mp_some, b_X12_can_4, mi_b2, m_if_pos (ix_nI hs), v_isOne _ _ _ n (by omega) (MC_n hM1), mb_some, mp_some, b_X12_can_12, mi_b2, m_if_pos (ix_nI ho), v_rowFault hs, mb_some, mp_some]
      rcases rf_0 hs hnb hS with c | ⟨c, L, f, hR⟩
      · rw [m_if_neg (rf_ne c)]
        refine op_bad _ hI rfl ?_
        rw [hMh g hM, b_X12_can_22, m_if_pos c, v_rowFault hs, mb_some, mp_some, b_X12_can_30]
      · rw [c, m_if_pos rfl, mi_nI hs (by omega), pk_cl s (hx := rfl), sel6 hs, b_X11_can_46 (isSh6 hs)]
        refine op_th (b2 (fiS (HH W p g.1 one) f P0 (if L < 31 then L else 31) ≠ 0)) hI ?_ ?_
        · refine ok_bnd (x_fits hX hs hR 1292 one P0 ho hP0 hp0) ?_
          intro r g2 ⟨hr, F⟩
          subst hr
          rw [mp_some, b_X11_can_50, mi_b2, mi_tt]
          exact ok_some ⟨rfl, F⟩
        · intro g1 F1
          have hM1 := MC_fr F1 hM
          have hR1 := RW_fr hs F1 hR
          have c1 : rf (g1.1 90 s) = 0 := by rw [F1.1 90 s rfl]; exact c
          rw [hMh g1 hM1, b_X12_can_22, m_if_neg (rf_nn c1)]
          refine ok_bnd (m_canBe hM1 hs hR1 1290 one P0 ho hP0 hp0) ?_
          intro r g2 ⟨hr, F⟩
          subst hr
          rw [mp_some, b_X12_can_39, mi_b2, mi_tt]
          exact ok_some ⟨rfl, F⟩
    · refine op_bad (-1) hI ?_ ?_
      · rw [b_X11_can_0, v_isShelf, mb_some, mp_some, b_X11_can_4, mi_b2, m_if_pos h0, v_hasPerson _ g _ n (by omega) hX.2.1.1, mb_some, mp_some, b_X11_can_15, mi_b2, m_if_neg h1]
      · rw [b_X12_can_0, v_isShelfM, mb_some, mp_some, b_X12_can_4, mi_b2, m_if_pos h0, v_isOne _ _ _ n (by omega) (MC_n hM), mb_some, mp_some, b_X12_can_12, mi_b2, m_if_neg h1]
  · refine op_bad (-1) hI ?_ ?_
    · rw [b_X11_can_0, v_isShelf, mb_some, mp_some, b_X11_can_4, mi_b2, m_if_neg h0]
    · rw [b_X12_can_0, v_isShelfM, mb_some, mp_some, b_X12_can_4, mi_b2, m_if_neg h0]
theorem o_who : op_who Inv 1299 := by
  intro g hI a1
  obtain ⟨n, p, W, nb, hX, hM, hnb, hS⟩ := inv_SC hI
  have hn : n ≤ 6 := hX.1.1
  have hp : p ≤ 12 := hX.1.2.1
  by_cases h0 : ix 6 a1
  · obtain ⟨s, hs, e⟩ := h0
    subst e
    rw [b_X11_who_0, v_isShelf, mb_some, mp_some, b_X11_who_4, mi_b2, m_if_pos (ix_nI hs), mi_nI hs (by omega), pk_cl s (hx := rfl), sel6 hs, b_X11_who_15 (isSh6 hs), v_refusal hs hnb _ _ hS, mb_some, mp_some, b_X11_who_18]
    have hMh : ∀ g1 : mG, ev none 1299 mm_X12_who 0 [.ref 55, .int (nI s), .null, .null] [] g1 = ev none 1299 mm_X12_who 14 [.ref 55, .int (nI s), .null, .null] [.int (rf (g1.1 90 s))] g1 := by
      intro g1
      rw [b_X12_who_0, v_isShelfM, mb_some, mp_some, b_X12_who_4, mi_b2, m_if_pos (ix_nI hs), v_rowFault hs, mb_some, mp_some]
    rcases rf_0 hs hnb hS with c | ⟨c, L, f, hR⟩
    · rw [m_if_neg (rf_ne c)]
      refine op_bad _ hI rfl ?_
      rw [hMh g, b_X12_who_14, m_if_pos c, v_rowFault hs, mb_some, mp_some, b_X12_who_22]
    · have hpl : ∀ i, i < n → ∃ P0, P0 < 25 ∧ g.1 56 i = nI P0 := fun i hi => (hX.1.2.2.2.2.1 i hi).1
      rw [c, m_if_pos rfl]
      refine op_th (nI (bts n (fun i => fiS (HH W p g.1 i) f (g.1 56 i).toNatClampNeg (if L < 31 then L else 31) ≠ 0))) hI ?_ ?_
      · refine ok_loop (E := fun e (a : Nat) g => ev none 1299 mm_X11_who 30 [.ref 0, .int (nI s), .int 0, .int (nI a), .int (nI e)] [] g) (I := fun e a g3 => a = bts e (fun i => fiS (HH W p g.1 i) f (g.1 56 i).toNatClampNeg (if L < 31 then L else 31) ≠ 0) ∧ Fr sA g g3) (P := n) ?_ ?_ 0 0 g (by omega) ⟨rfl, fr_refl⟩
        · intro e a g3 he ⟨ha, hg⟩ next
          have hX3 := XR_fr hg hX
          have hR3 := RW_fr hs hg hR
          obtain ⟨P0, hP0, hp0⟩ := hpl e he
          have ecl : (g.1 56 e).toNatClampNeg = P0 := by rw [hp0]; exact nI_clamp (by omega)
          show Ok (ev none 1299 mm_X11_who 30 [.ref 0, .int (nI s), .int 0, .int (nI a), .int (nI e)] [] g3) _
          rw [b_X11_who_30, hX3.2.1.1, m_if_pos (nI_lt he (by omega)), mi_nI hs (by omega), pk_cl s (hx := rfl), sel6 hs, b_X11_who_52 (isSh6 hs)]
          refine ok_bnd (x_fits hX3 hs hR3 1292 e P0 he hP0 hp0) ?_
          intro r g4 ⟨hr, F⟩
          subst hr
          rw [mp_some, b_X11_who_57, mi_b2]
          refine ok_if (fun c2 => ?_) (fun c2 => ?_)
          · rw [t_or1 (by omega), b_X11_who_67, nI_1]
            exact next _ _ ⟨by rw [bts_t (by rw [ecl]; exact c2), ha], fr_trans hg F⟩
          · rw [b_X11_who_67, nI_1]
            exact next _ _ ⟨by rw [bts_f (by rw [ecl]; exact c2), ha], fr_trans hg F⟩
        · intro a g3 ⟨ha, hg⟩
          have hX3 := XR_fr hg hX
          show Ok (ev none 1299 mm_X11_who 30 [.ref 0, .int (nI s), .int 0, .int (nI a), .int (nI n)] [] g3) _
          rw [b_X11_who_30, hX3.2.1.1, m_if_neg (nI_nlt (Nat.le_refl _) (by omega)), ha]
          exact ok_some ⟨rfl, hg⟩
      · intro g1 F1
        have c1 : rf (g1.1 90 s) = 0 := by rw [F1.1 90 s rfl]; exact c
        have hM1 := MC_fr F1 hM
        have hR1 := RW_fr hs F1 hR
        rw [hMh g1, b_X12_who_14, m_if_neg (rf_nn c1)]
        refine ok_loop (E := fun e (a : Nat) g => ev none 1299 mm_X12_who 27 [.ref 55, .int (nI s), .int (nI a), .int (nI e)] [] g) (I := fun e a g3 => a = bts e (fun i => fiS (HH W p g.1 i) f (g.1 56 i).toNatClampNeg (if L < 31 then L else 31) ≠ 0) ∧ Fr sA g1 g3) (P := n) ?_ ?_ 0 0 g1 (by omega) ⟨rfl, fr_refl⟩
        · intro e a g3 he ⟨ha, hg⟩ next
          have hM3 := MC_fr hg hM1
          have hR3 := RW_fr hs hg hR1
          obtain ⟨P0, hP0, hp0⟩ := hpl e he
          have ecl : (g.1 56 e).toNatClampNeg = P0 := by rw [hp0]; exact nI_clamp (by omega)
          show Ok (ev none 1299 mm_X12_who 27 [.ref 55, .int (nI s), .int (nI a), .int (nI e)] [] g3) _
          rw [b_X12_who_27, MC_n hM3, m_if_pos (nI_lt he (by omega))]
          refine ok_bnd (m_canBe hM3 hs hR3 1290 e P0 he hP0 hp0) ?_
          intro r g4 ⟨hr, F⟩
          subst hr
          rw [mp_some, b_X12_who_41, mi_b2]
          refine ok_if (fun c2 => ?_) (fun c2 => ?_)
          · rw [t_or1 (by omega), b_X12_who_50, nI_1]
            exact next _ _ ⟨by rw [bts_t (by rw [ecl]; exact c2), ha], fr_trans hg F⟩
          · rw [b_X12_who_50, nI_1]
            exact next _ _ ⟨by rw [bts_f (by rw [ecl]; exact c2), ha], fr_trans hg F⟩
        · intro a g3 ⟨ha, hg⟩
          have hM3 := MC_fr hg hM1
          show Ok (ev none 1299 mm_X12_who 27 [.ref 55, .int (nI s), .int (nI a), .int (nI n)] [] g3) _
          rw [b_X12_who_27, MC_n hM3, m_if_neg (nI_nlt (Nat.le_refl _) (by omega)), ha]
          exact ok_some ⟨rfl, hg⟩
  · refine op_bad (-1) hI ?_ ?_
    · rw [b_X11_who_0, v_isShelf, mb_some, mp_some, b_X11_who_4, mi_b2, m_if_neg h0]
    · rw [b_X12_who_0, v_isShelfM, mb_some, mp_some, b_X12_who_4, mi_b2, m_if_neg h0]
/-! what is rued -/
def rdO (h : mH) (one : Nat) (H : Nat → Nat → Prop) (P0 k q : Nat) : Prop := ∃ pl, pl < 25 ∧ (plS H P0 k).testBit pl = true ∧ kpA h (nI one) (nI pl) (dy (h 55 14) (nI k)) q
def rdR (h : mH) (one : Nat) (H : Nat → Nat → Prop) (P0 k q : Nat) : Prop := h 58 q = nI one ∧ h 65 q = 0 ∧ ∀ d, d < k → ¬ rdO h one H P0 d q
theorem x_onAtAny {W : mW} {n p : Nat} {h : mH} {g : mG} (hX : XR W n p h g) (d : Nat) (P k : Nat) (hP : P < 2 ^ 25) : ev none (d + 2) mm_X10_onAtAny 0 [.ref 19, .int (nI P), .int (nI k), .null, .null, .null] [] g = some (some (.int (nI (bts p (fun q => P.testBit (h 60 q).toNatClampNeg = true ∧ onP h (dy (h 55 14) (nI k)) q)))), g) := by
  have hp : p ≤ 12 := hX.1.2.1
  obtain ⟨hV, hR, hL⟩ := hX
  have hT := RX_XT hR
  obtain ⟨r1, r2, r3, r4, r5, r6, r7, r8⟩ := hR
  rw [b_X10_onAtAny_0, r8, v_dayBehind, mb_some, mp_some, b_X10_onAtAny_13]
  generalize dy (h 55 14) (nI k) = day
  refine ok_eq (ok_loop (E := fun e (a : Nat) g => ev none (d + 2) mm_X10_onAtAny 18 [.ref 19, .int (nI P), .int (nI k), .int (nI a), .int day, .int (nI e)] [] g) (I := fun e a g' => a = bts e (fun q => P.testBit (h 60 q).toNatClampNeg = true ∧ onP h day q) ∧ g' = g) (P := p) ?_ ?_ 0 0 g (by omega) ⟨rfl, rfl⟩)
  · intro e a g' he ⟨ha, hg⟩ next
    subst hg
    obtain ⟨pl, hpl, epl⟩ := (hV.2.2.2.2.2.1 e he).2.2.1
    have ecl : (h 60 e).toNatClampNeg = pl := by rw [epl]; exact nI_clamp (by omega)
    have step : ∀ m, m = bts (e + 1) (fun q => P.testBit (h 60 q).toNatClampNeg = true ∧ onP h day q) → Ok (ev none (d + 2) mm_X10_onAtAny 75 [.ref 19, .int (nI P), .int (nI k), .int (nI m), .int day, .int (nI e)] [] g') (fun r g2 => r = some (.int (nI (bts p (fun q => P.testBit (h 60 q).toNatClampNeg = true ∧ onP h day q)))) ∧ g2 = g') := by
      intro m hm
      rw [b_X10_onAtAny_75, nI_1]
      exact next m g' ⟨hm, rfl⟩
    show Ok (ev none (d + 2) mm_X10_onAtAny 18 [.ref 19, .int (nI P), .int (nI k), .int (nI a), .int day, .int (nI e)] [] g') _
    rw [b_X10_onAtAny_18, r2, m_if_pos (nI_lt he (by omega)), mi_nI (i := e) (by omega) (by omega), pk_cl e (hx := rfl), (r4 e (by omega)).2.2.1, epl, v_hasBit _ _ P pl (by omega) (by omega), mb_some, mp_some, b_X10_onAtAny_44, mi_b2]
    refine ok_if (fun c => ?_) (fun c => ?_)
    · rw [x_isOn hT _ _ r6 _ e (by omega), mb_some, mp_some, b_X10_onAtAny_65, mi_b2]
      refine ok_if (fun c2 => ?_) (fun c2 => ?_)
      · rw [t_or1 (by omega)]
        exact step _ (by rw [bts_t ⟨by rw [ecl]; exact c, c2⟩, ha])
      · exact step _ (by rw [bts_f (fun x => c2 x.2), ha])
    · exact step _ (by rw [bts_f (fun x => c (by rw [← ecl]; exact x.1)), ha])
  · intro a g' ⟨ha, hg⟩
    subst hg
    show Ok (ev none (d + 2) mm_X10_onAtAny 18 [.ref 19, .int (nI P), .int (nI k), .int (nI a), .int day, .int (nI p)] [] g') _
    rw [b_X10_onAtAny_18, r2, m_if_neg (nI_nlt (Nat.le_refl _) (by omega))]
    exact ok_some ⟨by rw [ha], rfl⟩
theorem x_rued {W : mW} {n p : Nat} {h : mH} {g : mG} (hX : XR W n p h g) (d : Nat) (one t P0 : Nat) (h1 : one < n) (ht : t ≤ 8) (hP0 : P0 < 25) (hp0 : h 56 one = nI P0) : Ok (ev none (d + 6) mm_X10_neverKept 0 [.ref 19, .int (nI one), .int (nI t), .null, .null, .null] [] g) (fun r g2 => r = some (.int (nI (bts p (rdR h one (HH W p h one) P0 (t + 1))))) ∧ Fr sA g g2) := by
  have hn : n ≤ 6 := hX.1.1
  have hp : p ≤ 12 := hX.1.2.1
  rw [b_X10_neverKept_0]
  refine ok_bnd (x_thinkOf hX d one t h1 (by omega)) ?_
  intro r g1 ⟨hr, F1, hT⟩
  subst hr
  have hX1 := XR_fr F1 hX
  obtain ⟨r1, r2, r3, r4, r5, r6, r7, r8⟩ := hX1.2.1
  rw [mp_none, b_X10_neverKept_6]
  refine ok_loop (E := fun e (a : Nat) g => ev none (d + 6) mm_X10_neverKept 11 [.ref 19, .int (nI one), .int (nI t), .int (nI a), .int (nI e), .null] [] g) (I := fun e a g3 => a = bts e (rdR h one (HH W p h one) P0 0) ∧ g3 = g1) (P := p) ?_ ?_ 0 0 g1 (by omega) ⟨rfl, rfl⟩
  · intro e a g3 he ⟨ha, hg⟩ next
    subst hg
    obtain ⟨F, f1, f2, f3⟩ := r6
    have step : ∀ m, m = bts (e + 1) (rdR h one (HH W p h one) P0 0) → Ok (ev none (d + 6) mm_X10_neverKept 62 [.ref 19, .int (nI one), .int (nI t), .int (nI m), .int (nI e), .null] [] g3) (fun r g2 => r = some (.int (nI (bts p (rdR h one (HH W p h one) P0 (t + 1))))) ∧ Fr sA g g2) := by
      intro m hm
      rw [b_X10_neverKept_62, nI_1]
      exact next m g3 ⟨hm, rfl⟩
    show Ok (ev none (d + 6) mm_X10_neverKept 11 [.ref 19, .int (nI one), .int (nI t), .int (nI a), .int (nI e), .null] [] g3) _
    rw [b_X10_neverKept_11, r2, m_if_pos (nI_lt he (by omega)), mi_nI (i := e) (by omega) (by omega), pk_cl e (hx := rfl), (r4 e (by omega)).1, hT.1]
    refine ok_if (fun c => ?_) (fun c => step _ (by rw [bts_f (fun x => c x.1), ha]))
    rw [f2, v_hasBit _ _ F e (by omega) (by omega), mb_some, mp_some, b_X10_neverKept_52, mi_b2]
    refine ok_if (fun c2 => ?_) (fun c2 => ?_)
    · exact step _ (by rw [bts_f (fun x => by
        have := x.2.1
        rw [f3 e (by omega)] at this
        exact b2_0.mp this c2), ha])
    · rw [t_or1 (by omega)]
      exact step _ (by rw [bts_t ⟨c, by rw [f3 e (by omega)]; exact b2_f c2, fun _ hd => by omega⟩, ha])
  · intro a g3 ⟨ha, hg⟩
    subst hg
    subst ha
    show Ok (ev none (d + 6) mm_X10_neverKept 11 [.ref 19, .int (nI one), .int (nI t), .int (nI (bts p (rdR h one (HH W p h one) P0 0))), .int (nI p), .null] [] g3) _
    rw [b_X10_neverKept_11, r2, m_if_neg (nI_nlt (Nat.le_refl _) (by omega)), hT.1, mi_nI (by omega) (by omega), pk_cl one (hx := rfl), (r3 one (by omega)).1, hp0, t_sh1 P0 (by omega)]
    refine ok_loop (E := fun e (a : Nat × Nat) g => ev none (d + 6) mm_X10_neverKept 87 [.ref 19, .int (nI one), .int (nI t), .int (nI a.1), .int (nI a.2), .int (nI e)] [] g) (I := fun e a g4 => a = (bts p (rdR h one (HH W p h one) P0 e), plS (HH W p h one) P0 e) ∧ g4 = g3) (P := t + 1) ?_ ?_ 0 (bts p (rdR h one (HH W p h one) P0 0), 2 ^ P0) g3 (by omega) ⟨rfl, rfl⟩
    · intro e a g4 he ⟨ha, hg⟩ next
      subst hg
      subst ha
      have hlt := plS_lt (H := HH W p h one) hP0 e
      have hbt : bts p (rdR h one (HH W p h one) P0 e) < 4096 := bts_12 hp
      show Ok (ev none (d + 6) mm_X10_neverKept 87 [.ref 19, .int (nI one), .int (nI t), .int (nI (bts p (rdR h one (HH W p h one) P0 e))), .int (nI (plS (HH W p h one) P0 e)), .int (nI e)] [] g4) _
      rw [b_X10_neverKept_87, m_if_neg (nI_nlt (by omega) (by omega)), m_if_pos (show nI e < 41 from nI_lt (b := 41) (by omega) (by omega)), x_onAtAny hX1 _ _ _ hlt, mb_some, mp_some, b_X10_neverKept_112, mi_nI (by omega) (by omega), pk_cl e (hx := rfl), x_spread hT _ e _ (by omega) hlt, mb_some, mp_some, b_X10_neverKept_128, t_not, nI_1]
      refine next (_, _) _ ⟨Prod.ext ?_ rfl, rfl⟩
      refine nat_ext (fun i => ?_)
      show (adn (bts p (rdR h one (HH W p h one) P0 e)) (bts p (fun q => (plS (HH W p h one) P0 e).testBit (h 60 q).toNatClampNeg = true ∧ onP h (dy (h 55 14) (nI e)) q))).testBit i = true ↔ (bts p (rdR h one (HH W p h one) P0 (e + 1))).testBit i = true
      rw [adn_bit, Bool.and_eq_true, Bool.not_eq_true', tb_ff (bts_bit i), bts_bit, bts_bit]
      constructor
      · intro ⟨⟨hi, b1, b2, b3⟩, b4⟩
        refine ⟨hi, b1, b2, fun dd hd => ?_⟩
        by_cases c : dd = e
        · subst c
          intro ⟨pl, hpl, q1, q2⟩
          refine b4 ⟨hi, ?_, q2.2.2⟩
          rw [q2.2.1, nI_clamp (by omega)]
          exact q1
        · exact b3 dd (by omega)
      · intro ⟨hi, b1, b2, b3⟩
        refine ⟨⟨hi, b1, b2, fun dd hd => b3 dd (by omega)⟩, fun ⟨_, q1, q2⟩ => ?_⟩
        obtain ⟨pl, hpl, epl⟩ := (hX.1.2.2.2.2.2.1 i hi).2.2.1
        rw [epl, nI_clamp (by omega)] at q1
        exact b3 e (by omega) ⟨pl, hpl, q1, b1, epl, q2⟩
    · intro a g4 ⟨ha, hg⟩
      subst hg
      subst ha
      show Ok (ev none (d + 6) mm_X10_neverKept 87 [.ref 19, .int (nI one), .int (nI t), .int (nI (bts p (rdR h one (HH W p h one) P0 (t + 1)))), .int (nI (plS (HH W p h one) P0 (t + 1))), .int (nI (t + 1))] [] g4) _
      rw [b_X10_neverKept_87, m_if_pos (nI_lt (by omega) (by omega))]
      exact ok_some ⟨rfl, F1⟩
/-- what is kept, as the model gathers it -/
def rdK (h : mH) (one : Nat) (H : Nat → Nat → Prop) (P0 k e q : Nat) : Prop := (∃ d, d < k ∧ rdO h one H P0 d q) ∨ ∃ pl, pl < e ∧ (plS H P0 k).testBit pl = true ∧ kpA h (nI one) (nI pl) (dy (h 55 14) (nI k)) q
theorem m_rued {W : mW} {n p : Nat} {h : mH} {g : mG} (hM : MC W n p h g) (d : Nat) (one t P0 : Nat) (h1 : one < n) (ht : t ≤ 8) (hP0 : P0 < 25) (hp0 : h 56 one = nI P0) : Ok (ev none (d + 8) mm_X12_rued 35 [.ref 55, .int (nI one), .int (nI t), .int 0, .int (nI (2 ^ P0)), .int 0, .null] [] g) (fun r g2 => r = some (.int (nI (bts p (rdR h one (HH W p h one) P0 (t + 1))))) ∧ Fr sA g g2) := by
  have hn : n ≤ 6 := hM.1.1
  have hp : p ≤ 12 := hM.1.2.1
  have k0 : bts p (rdK h one (HH W p h one) P0 0 0) = 0 := bts_0.mpr (fun i _ q => by
    rcases q with ⟨_, q, _⟩ | ⟨_, q, _⟩
    · omega
    · omega)
  refine ok_loop (E := fun e (a : Nat × Nat × Value) g => ev none (d + 8) mm_X12_rued 35 [.ref 55, .int (nI one), .int (nI t), .int (nI a.1), .int (nI a.2.1), .int (nI e), a.2.2] [] g) (I := fun e a g3 => a.1 = bts p (rdK h one (HH W p h one) P0 e 0) ∧ a.2.1 = plS (HH W p h one) P0 e ∧ Fr sA g g3) (P := t + 1) ?_ ?_ 0 (0, 2 ^ P0, .null) g (by omega) ⟨k0.symm, rfl, fr_refl⟩
  · intro e ⟨a, P, v6⟩ g3 he ⟨ha, hP, hg⟩ next
    dsimp only at ha hP
    subst hP
    have hM3 := MC_fr hg hM
    have hlt := plS_lt (H := HH W p h one) hP0 e
    show Ok (ev none (d + 8) mm_X12_rued 35 [.ref 55, .int (nI one), .int (nI t), .int (nI a), .int (nI (plS (HH W p h one) P0 e)), .int (nI e), v6] [] g3) _
    rw [b_X12_rued_35, m_if_neg (nI_nlt (by omega) (by omega))]
    refine ok_loop (E := fun e2 (b : Nat) g => ev none (d + 8) mm_X12_rued 44 [.ref 55, .int (nI one), .int (nI t), .int (nI b), .int (nI (plS (HH W p h one) P0 e)), .int (nI e), .int (nI e2)] [] g) (I := fun e2 b g4 => b = bts p (rdK h one (HH W p h one) P0 e e2) ∧ g4 = g3) (P := 25) ?_ ?_ 0 a g3 (by omega) ⟨ha, rfl⟩
    · intro e2 b g4 he2 ⟨hb, hg4⟩ next2
      subst hg4
      show Ok (ev none (d + 8) mm_X12_rued 44 [.ref 55, .int (nI one), .int (nI t), .int (nI b), .int (nI (plS (HH W p h one) P0 e)), .int (nI e), .int (nI e2)] [] g4) _
      rw [b_X12_rued_44, m_if_pos (show nI e2 < 25 from nI_lt (b := 25) he2 (by omega)), v_has _ _ _ e2 (by omega) (by omega), mb_some, mp_some, b_X12_rued_58, mi_b2]
      refine ok_if (fun c => ?_) (fun c => ?_)
      · rw [v_dayOn, mb_some, mp_some, b_X12_rued_72, hM3.2.1.2.2.2.1, m_keptAt hM3, mb_some, mp_some, b_X12_rued_75, t_or, b_X12_rued_77, nI_1]
        refine next2 _ _ ⟨?_, rfl⟩
        rw [hb]
        refine nat_ext (fun i => ?_)
        rw [Nat.testBit_or, Bool.or_eq_true, bts_bit, bts_bit, bts_bit]
        constructor
        · rintro (⟨hi, q | ⟨pl, hpl, q⟩⟩ | ⟨hi, q⟩)
          · exact ⟨hi, Or.inl q⟩
          · exact ⟨hi, Or.inr ⟨pl, by omega, q⟩⟩
          · exact ⟨hi, Or.inr ⟨e2, by omega, c, q⟩⟩
        · rintro ⟨hi, q | ⟨pl, hpl, q⟩⟩
          · exact Or.inl ⟨hi, Or.inl q⟩
          · by_cases z : pl = e2
            · subst z; exact Or.inr ⟨hi, q.2⟩
            · exact Or.inl ⟨hi, Or.inr ⟨pl, by omega, q⟩⟩
      · rw [b_X12_rued_77, nI_1]
        refine next2 _ _ ⟨?_, rfl⟩
        rw [hb]
        refine bts_c (fun i hi => ?_)
        constructor
        · rintro (q | ⟨pl, hpl, q⟩)
          · exact Or.inl q
          · exact Or.inr ⟨pl, by omega, q⟩
        · rintro (q | ⟨pl, hpl, q⟩)
          · exact Or.inl q
          · by_cases z : pl = e2
            · subst z; exact absurd q.1 c
            · exact Or.inr ⟨pl, by omega, q⟩
    · intro b g4 ⟨hb, hg4⟩
      subst hg4
      show Ok (ev none (d + 8) mm_X12_rued 44 [.ref 55, .int (nI one), .int (nI t), .int (nI b), .int (nI (plS (HH W p h one) P0 e)), .int (nI e), .int (nI 25)] [] g4) _
      rw [b_X12_rued_44, m_if_neg (show ¬ nI 25 < 25 by decide), v_dayOn, mb_some, mp_some, b_X12_rued_93, hM3.2.1.2.2.2.1]
      refine ok_bnd (m_dayF hM3 _ one e _ hlt) ?_
      intro r g5 ⟨hr, F5⟩
      subst hr
      rw [mp_some, b_X12_rued_96, nI_1]
      refine next (b, _, .int (nI 25)) _ ⟨?_, rfl, fr_trans hg (fr_1A F5)⟩
      rw [hb]
      refine bts_c (fun i hi => ?_)
      constructor
      · rintro (⟨dd, hd, q⟩ | q)
        · exact Or.inl ⟨dd, by omega, q⟩
        · exact Or.inl ⟨e, by omega, q⟩
      · rintro (⟨dd, hd, q⟩ | ⟨pl, hpl, q⟩)
        · by_cases z : dd = e
          · subst z; exact Or.inr q
          · exact Or.inl ⟨dd, by omega, q⟩
        · omega
  · intro ⟨a, P, v6⟩ g3 ⟨ha, hP, hg⟩
    dsimp only at ha hP
    subst hP
    have hM3 := MC_fr hg hM
    have hT := hM3.2.1
    have hba : a < 4096 := by rw [ha]; exact bts_12 hp
    show Ok (ev none (d + 8) mm_X12_rued 35 [.ref 55, .int (nI one), .int (nI t), .int (nI a), .int (nI (plS (HH W p h one) P0 (t + 1))), .int (nI (t + 1)), v6] [] g3) _
    rw [b_X12_rued_35, m_if_pos (nI_lt (by omega) (by omega))]
    have keq : ∀ q, q < p → (a.testBit q = true ↔ ∃ d, d < t + 1 ∧ rdO h one (HH W p h one) P0 d q) := by
      intro q hq
      rw [ha, bts_bit]
      constructor
      · rintro ⟨_, z | ⟨_, z, _⟩⟩
        · exact z
        · omega
      · exact fun z => ⟨hq, Or.inl z⟩
    refine ok_loop (E := fun e (b : Nat) g => ev none (d + 8) mm_X12_rued 110 [.ref 55, .int (nI one), .int (nI t), .int (nI a), .int (nI (plS (HH W p h one) P0 (t + 1))), .int (nI b), .int (nI e)] [] g) (I := fun e b g4 => b = bts e (rdR h one (HH W p h one) P0 (t + 1)) ∧ g4 = g3) (P := p) ?_ ?_ 0 0 g3 (by omega) ⟨rfl, rfl⟩
    · intro e b g4 he ⟨hb, hg4⟩ next2
      subst hg4
      have step : ∀ m, m = bts (e + 1) (rdR h one (HH W p h one) P0 (t + 1)) → Ok (ev none (d + 8) mm_X12_rued 158 [.ref 55, .int (nI one), .int (nI t), .int (nI a), .int (nI (plS (HH W p h one) P0 (t + 1))), .int (nI m), .int (nI e)] [] g4) (fun r g2 => r = some (.int (nI (bts p (rdR h one (HH W p h one) P0 (t + 1))))) ∧ Fr sA g g2) := by
        intro m hm
        rw [b_X12_rued_158, nI_1]
        exact next2 m g4 ⟨hm, rfl⟩
      show Ok (ev none (d + 8) mm_X12_rued 110 [.ref 55, .int (nI one), .int (nI t), .int (nI a), .int (nI (plS (HH W p h one) P0 (t + 1))), .int (nI b), .int (nI e)] [] g4) _
      rw [b_X12_rued_110, MC_p hM3, m_if_pos (nI_lt he (by omega)), mi_nI (i := e) (by omega) (by omega), mi_nI (i := e) (by omega) (by omega), pk_cl e (hx := rfl), (hT.2.2.2.2 e).2.2.1, (hT.2.2.2.2 e).2.2.2.2.2.2.2.2.2]
      refine ok_if (fun c => ?_) (fun c => step _ (by rw [bts_f (fun x => c x.1), hb]))
      refine ok_if (fun c1 => ?_) (fun c1 => step _ (by rw [bts_f (fun x => c1 x.2.1), hb]))
      rw [v_has _ _ _ e (by omega) (by omega), mb_some, mp_some, b_X12_rued_146, mi_b2]
      refine ok_if (fun c2 => ?_) (fun c2 => ?_)
      · obtain ⟨dd, hd, q⟩ := (keq e he).mp c2
        exact step _ (by rw [bts_f (fun x => x.2.2 dd hd q), hb])
      · rw [t_or1 (by omega)]
        exact step _ (by rw [bts_t ⟨c, c1, fun dd hd q => c2 ((keq e he).mpr ⟨dd, hd, q⟩)⟩, hb])
    · intro b g4 ⟨hb, hg4⟩
      subst hg4
      show Ok (ev none (d + 8) mm_X12_rued 110 [.ref 55, .int (nI one), .int (nI t), .int (nI a), .int (nI (plS (HH W p h one) P0 (t + 1))), .int (nI b), .int (nI p)] [] g4) _
      rw [b_X12_rued_110, MC_p hM3, m_if_neg (nI_nlt (Nat.le_refl _) (by omega)), hb]
      exact ok_some ⟨rfl, hg⟩
theorem o_rued : op_rued Inv 1299 := by
  intro g hI a1 a2
  obtain ⟨n, p, W, hX, hM⟩ := inv_C hI
  have hn : n ≤ 6 := hX.1.1
  have hp : p ≤ 12 := hX.1.2.1
  have e8 : (¬ a2 < 0 ∧ ¬ 8 < a2) ↔ ix 9 a2 := ix_le (n := 8) (by omega)
  by_cases h0 : ix n a1
  · by_cases h1 : ix 9 a2
    · have h2 := e8.mpr h1
      obtain ⟨one, ho, e⟩ := h0
      subst e
      obtain ⟨t, ht, e⟩ := h1
      subst e
      obtain ⟨P0, hP0, hp0⟩ := (hX.1.2.2.2.2.1 one ho).1
      refine op_th (nI (bts p (rdR g.1 one (HH W p g.1 one) P0 (t + 1)))) hI ?_ ?_
      · rw [b_X11_rued_0, v_hasPerson _ g _ n (by omega) hX.2.1.1, mb_some, mp_some, b_X11_rued_8, mi_b2, m_if_pos (ix_nI ho), m_if_neg h2.1, m_if_neg h2.2]
        refine ok_bnd (x_rued hX 1292 one t P0 ho (by omega) hP0 hp0) ?_
        intro r g2 ⟨hr, F⟩
        subst hr
        rw [mp_some, b_X11_rued_32]
        exact ok_some ⟨rfl, F⟩
      · intro g1 F1
        have hM1 := MC_fr F1 hM
        rw [b_X12_rued_0, v_isOne _ _ _ n (by omega) (MC_n hM1), mb_some, mp_some, b_X12_rued_5, mi_b2, m_if_pos (ix_nI ho), v_in _ _ _ 8 9 (by omega) rfl, mb_some, mp_some, b_X12_rued_15, mi_b2, m_if_pos (ix_nI ht), mi_nI (by omega) (by omega), pk_cl one (hx := rfl), (hM1.2.1.2.2.2.2 one).1, hp0, t_sh1 P0 (by omega)]
        exact m_rued hM1 1291 one t P0 ho (by omega) hP0 hp0
    · refine op_bad (-1) hI ?_ ?_
      · rw [b_X11_rued_0, v_hasPerson _ g _ n (by omega) hX.2.1.1, mb_some, mp_some, b_X11_rued_8, mi_b2, m_if_pos h0]
        by_cases c : a2 < 0
        · rw [m_if_pos c]
        · rw [m_if_neg c, m_if_pos (Decidable.byContradiction (fun c2 => h1 (e8.mp ⟨c, c2⟩)))]
      · rw [b_X12_rued_0, v_isOne _ _ _ n (by omega) (MC_n hM), mb_some, mp_some, b_X12_rued_5, mi_b2, m_if_pos h0, v_in _ _ _ 8 9 (by omega) rfl, mb_some, mp_some, b_X12_rued_15, mi_b2, m_if_neg h1]
  · refine op_bad (-1) hI ?_ ?_
    · rw [b_X11_rued_0, v_hasPerson _ g _ n (by omega) hX.2.1.1, mb_some, mp_some, b_X11_rued_8, mi_b2, m_if_neg h0]
    · rw [b_X12_rued_0, v_isOne _ _ _ n (by omega) (MC_n hM), mb_some, mp_some, b_X12_rued_5, mi_b2, m_if_neg h0]
