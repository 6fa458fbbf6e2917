/-! OPERATIONS (5): how hard, who is held, steps, pulling, free places -/
theorem op_th {g : mG} {eX : Option (Option Value × mG)} {eM : mG → Option (Option Value × mG)} (v : Int32) (hI : Inv g) (hx : Ok eX (fun r g1 => r = some (.int v) ∧ Fr sA g g1)) (hm : ∀ g1, Fr sA g g1 → Ok (eM g1) (fun r g2 => r = some (.int v) ∧ Fr sA g1 g2)) : ∃ (r : Int32) (g1 g2 : mG), eX = some (some (.int r), g1) ∧ eM g1 = some (some (.int r), g2) ∧ Inv g2 := by
  obtain ⟨r, g1, h1, h2, h3⟩ := hx
  subst h2
  obtain ⟨r2, g2, k1, k2, k3⟩ := hm g1 h3
  subst k2
  exact ⟨v, g1, g2, h1, k1, inv_fr k3 (inv_fr h3 hI)⟩
theorem op_bad {g : mG} {eX : Option (Option Value × mG)} {eM : mG → Option (Option Value × mG)} (v : Int32) (hI : Inv g) (hx : eX = some (some (.int v), g)) (hm : eM g = some (some (.int v), g)) : ∃ (r : Int32) (g1 g2 : mG), eX = some (some (.int r), g1) ∧ eM g1 = some (some (.int r), g2) ∧ Inv g2 := ⟨v, g, g, hx, hm, hI⟩
theorem V_day {n p : Nat} {h : mH} (hV : V n p h) : ix 100 (h 55 14) := hV.2.2.2.2.2.2.2.2.2
theorem MC_n {W : mW} {n p : Nat} {h : mH} {g : mG} (hM : MC W n p h g) : g.1 55 1 = nI n := hM.2.1.1.trans hM.1.2.2.1
theorem MC_p {W : mW} {n p : Nat} {h : mH} {g : mG} (hM : MC W n p h g) : g.1 55 4 = nI p := hM.2.1.2.1.trans hM.1.2.2.2.1
theorem o_hard : op_hard Inv 1299 := by
  intro g hI a1
  obtain ⟨n, p, W, hX, hM⟩ := inv_C hI
  have hp : p ≤ 12 := hX.1.2.1
  by_cases h : ix p a1
  · obtain ⟨q, hq, e⟩ := h
    subst e
    refine op_th (hd W p g.1 (g.1 55 14) q) hI ?_ ?_
    · obtain ⟨g', e1, F1, hM', hR'⟩ := x_now hX 1298
      rw [b_X11_hard_0, v_hasPromise _ g _ p (by omega) hX.2.1.2.1, mb_some, mp_some, b_X11_hard_8, mi_b2, m_if_pos (ix_nI hq), e1, mb_some, mp_some, b_X11_hard_20, x_oth hM' _ q hq, mb_some, mp_some, b_X11_hard_35]
      refine ok_bnd (x_hard hM' (V_day hX.1) _ q hq) ?_
      intro r g2 ⟨hr, F⟩
      subst hr
      rw [mp_some, b_X11_hard_39]
      exact ok_some ⟨rfl, fr_2A (fr_trans F1 (fr_12 F))⟩
    · intro g1 F1
      have hM1 := MC_fr F1 hM
      rw [b_X12_hard_0, v_isPromise _ _ _ p (by omega) (MC_p hM1), mb_some, mp_some, b_X12_hard_5, mi_b2, m_if_pos (ix_nI hq), hM1.2.1.2.2.2.1]
      refine ok_bnd (m_hardOn hM1 _ q hq _) ?_
      intro r g2 ⟨hr, F⟩
      subst hr
      rw [mp_some, b_X12_hard_17]
      exact ok_some ⟨rfl, fr_1A F⟩
  · refine op_bad (-1) hI ?_ ?_
    · rw [b_X11_hard_0, v_hasPromise _ g _ p (by omega) hX.2.1.2.1, mb_some, mp_some, b_X11_hard_8, mi_b2, m_if_neg h]
    · rw [b_X12_hard_0, v_isPromise _ _ _ p (by omega) (MC_p hM), mb_some, mp_some, b_X12_hard_5, mi_b2, m_if_neg h]
/-- the hardest of those that are on at a place -/
noncomputable def hmx (W : mW) (p : Nat) (h : mH) (one pl day : Int32) : Nat → Int32
  | 0 => 0
  | k + 1 => @ite _ (kpA h one pl day k) (Classical.propDecidable _) (if hmx W p h one pl day k < hd W p h day k then hd W p h day k else hmx W p h one pl day k) (hmx W p h one pl day k)
theorem x_hardestNow {W : mW} {n p : Nat} {h : mH} {g : mG} (hX : XR W n p h g) (d : Nat) (one : Nat) (h1 : one < n) : Ok (ev none (d + 4) mm_X9_hardestNow 0 [.ref 1, .int (nI one), .null, .null, .null, .null] [] g) (fun r g2 => r = some (.int (hmx W p h (nI one) (h 56 one) (h 55 14) p)) ∧ Fr s2 g g2) := by
  have hn : n ≤ 6 := hX.1.1
  have hp : p ≤ 12 := hX.1.2.1
  obtain ⟨g', e1, F1, hM, hR⟩ := x_now hX (d + 3)
  rw [b_X9_hardestNow_0, mi_nI (by omega) (by omega), pk_cl one (hx := rfl), (hX.2.1.2.2.1 one (by omega)).1, hX.2.1.2.2.2.2.2.2.2, x_onAt hX, mb_some, mp_some, b_X9_hardestNow_15, e1, mb_some, mp_some, b_X9_hardestNow_20]
  have hB : bts p (kpA h (nI one) (h 56 one) (h 55 14)) < 2 ^ p := bts_lt
  have hB2 : (2 : Nat) ^ p ≤ 2 ^ 12 := Nat.pow_le_pow_right (by omega) hp
  generalize hBe : bts p (kpA h (nI one) (h 56 one) (h 55 14)) = B at hB
  refine ok_loop (E := fun e (a : Int32) g => ev none (d + 4) mm_X9_hardestNow 27 [.ref 1, .int (nI one), .int (nI B), .ref 15, .int a, .int (nI e)] [] g) (I := fun e a g3 => a = hmx W p h (nI one) (h 56 one) (h 55 14) e ∧ Fr s1 g' g3) (P := p) ?_ ?_ 0 0 g' (by omega) ⟨rfl, fr_refl⟩
  · intro e a g3 he ⟨ha, hg⟩ next
    have hM1 := XM_fr hg hM
    have step : ∀ m g2, Fr s1 g' g2 → m = hmx W p h (nI one) (h 56 one) (h 55 14) (e + 1) → Ok (ev none (d + 4) mm_X9_hardestNow 66 [.ref 1, .int (nI one), .int (nI B), .ref 15, .int m, .int (nI e)] [] g2) (fun r g2 => r = some (.int (hmx W p h (nI one) (h 56 one) (h 55 14) p)) ∧ Fr s2 g g2) := by
      intro m g2 hg2 hm
      rw [b_X9_hardestNow_66, nI_1]
      exact next m g2 ⟨hm, hg2⟩
    show Ok (ev none (d + 4) mm_X9_hardestNow 27 [.ref 1, .int (nI one), .int (nI B), .ref 15, .int a, .int (nI e)] [] g3) _
    rw [b_X9_hardestNow_27, hM1.2.1.2.1, m_if_pos (nI_lt he (by omega)), v_hasBit _ _ B e (by omega) (by omega), mb_some, mp_some, b_X9_hardestNow_42, mi_b2]
    refine ok_if (fun c => ?_) (fun c => ?_)
    · rw [← hBe] at c
      have c' := ((bts_bit e).mp c).2
      rw [x_oth hM1 _ e he, mb_some, mp_some, b_X9_hardestNow_57]
      refine ok_bnd (x_hard hM1 (V_day hX.1) _ e he) ?_
      intro r g2 ⟨hr, F⟩
      subst hr
      rw [mp_some, b_X9_hardestNow_61, b_X9_hardestNow_64]
      refine step _ _ (fr_trans hg F) ?_
      show _ = @ite _ _ (Classical.propDecidable _) _ _
      rw [if_pos c', ha]
    · refine step _ _ hg ?_
      show _ = @ite _ _ (Classical.propDecidable _) _ _
      rw [if_neg (fun q => c (by rw [← hBe]; exact (bts_bit e).mpr ⟨he, q⟩)), ha]
  · intro a g3 ⟨ha, hg⟩
    have hM1 := XM_fr hg hM
    show Ok (ev none (d + 4) mm_X9_hardestNow 27 [.ref 1, .int (nI one), .int (nI B), .ref 15, .int a, .int (nI p)] [] g3) _
    rw [b_X9_hardestNow_27, hM1.2.1.2.1, m_if_neg (nI_nlt (Nat.le_refl _) (by omega))]
    exact ok_some ⟨by rw [ha], fr_trans F1 (fr_12 hg)⟩
theorem m_hardestNow {W : mW} {n p : Nat} {h : mH} {g : mG} (hM : MC W n p h g) (d : Nat) (one : Nat) (h1 : one < n) : Ok (ev none (d + 4) mm_X12_hardestNow 0 [.ref 55, .int (nI one), .null, .null] [] g) (fun r g2 => r = some (.int (hmx W p h (nI one) (h 56 one) (h 55 14) p)) ∧ Fr s1 g g2) := by
  have hn : n ≤ 6 := hM.1.1
  have hp : p ≤ 12 := hM.1.2.1
  rw [b_X12_hardestNow_0]
  refine ok_loop (E := fun e (a : Int32) g => ev none (d + 4) mm_X12_hardestNow 4 [.ref 55, .int (nI one), .int a, .int (nI e)] [] g) (I := fun e a g3 => a = hmx W p h (nI one) (h 56 one) (h 55 14) e ∧ Fr s1 g g3) (P := p) ?_ ?_ 0 0 g (by omega) ⟨rfl, fr_refl⟩
  · intro e a g3 he ⟨ha, hg⟩ next
    have hM1 := MC_fr (fr_1A hg) hM
    have hT := hM1.2.1
    have step : ∀ m g2, Fr s1 g g2 → m = hmx W p h (nI one) (h 56 one) (h 55 14) (e + 1) → Ok (ev none (d + 4) mm_X12_hardestNow 72 [.ref 55, .int (nI one), .int m, .int (nI e)] [] g2) (fun r g2 => r = some (.int (hmx W p h (nI one) (h 56 one) (h 55 14) p)) ∧ Fr s1 g g2) := by
      intro m g2 hg2 hm
      rw [b_X12_hardestNow_72, nI_1]
      exact next m g2 ⟨hm, hg2⟩
    have no : ¬ kpA h (nI one) (h 56 one) (h 55 14) e → a = hmx W p h (nI one) (h 56 one) (h 55 14) (e + 1) := by
      intro c
      show _ = @ite _ _ (Classical.propDecidable _) _ _
      rw [if_neg c, ha]
    show Ok (ev none (d + 4) mm_X12_hardestNow 4 [.ref 55, .int (nI one), .int a, .int (nI e)] [] g3) _
    rw [b_X12_hardestNow_4, MC_p hM1, m_if_pos (nI_lt he (by omega)), mi_nI (i := e) (by omega) (by omega), mi_nI (i := e) (by omega) (by omega), mi_nI (i := one) (by omega) (by omega), pk_cl e (hx := rfl), pk_cl one (hx := rfl), (hT.2.2.2.2 e).2.2.1, (hT.2.2.2.2 e).2.2.2.2.1, (hT.2.2.2.2 one).1, hT.2.2.2.1]
    refine ok_if (fun c => ?_) (fun c => step _ _ hg (no (fun q => c q.1)))
    refine ok_if (fun c1 => ?_) (fun c1 => step _ _ hg (no (fun q => c1 q.2.1)))
    rw [m_isOn hT _ e (by omega), mb_some, mp_some, b_X12_hardestNow_46, mi_b2]
    refine ok_if (fun c2 => ?_) (fun c2 => step _ _ hg (no (fun q => c2 q.2.2)))
    have yes : ∀ m, m = (if a < hd W p h (h 55 14) e then hd W p h (h 55 14) e else a) → m = hmx W p h (nI one) (h 56 one) (h 55 14) (e + 1) := by
      intro m hm
      show _ = @ite _ _ (Classical.propDecidable _) _ _
      rw [if_pos ⟨c, c1, c2⟩, hm, ha]
    rw [hT.2.2.2.1]
    refine ok_bnd (m_hardOn hM1 _ e he _) ?_
    intro r g2 ⟨hr, F⟩
    subst hr
    have hM2 := MC_fr (fr_1A F) hM1
    rw [mp_some, b_X12_hardestNow_58, hM2.2.1.2.2.2.1]
    refine ok_if (fun c3 => ?_) (fun c3 => ?_)
    · refine ok_bnd (m_hardOn hM2 _ e he _) ?_
      intro r g4 ⟨hr, F4⟩
      subst hr
      rw [mp_some, b_X12_hardestNow_71]
      exact step _ _ (fr_trans hg (fr_trans F F4)) (yes _ (by rw [if_pos c3]))
    · exact step _ _ (fr_trans hg F) (yes _ (by rw [if_neg c3]))
  · intro a g3 ⟨ha, hg⟩
    have hM1 := MC_fr (fr_1A hg) hM
    show Ok (ev none (d + 4) mm_X12_hardestNow 4 [.ref 55, .int (nI one), .int a, .int (nI p)] [] g3) _
    rw [b_X12_hardestNow_4, MC_p hM1, m_if_neg (nI_nlt (Nat.le_refl _) (by omega))]
    exact ok_some ⟨by rw [ha], hg⟩
theorem bts_12 {p : Nat} {c : Nat → Prop} (hp : p ≤ 12) : bts p c < 4096 := Nat.lt_of_lt_of_le bts_lt (Nat.le_trans (Nat.pow_le_pow_right (by omega) hp) (by decide))
theorem o_held : op_held Inv 1299 := by
  intro g hI a1 a2
  obtain ⟨n, p, W, hX, hM⟩ := inv_C hI
  have hn : n ≤ 6 := hX.1.1
  have hp : p ≤ 12 := hX.1.2.1
  by_cases h : ix n a1
  · by_cases h2 : ix 2 a2
    · obtain ⟨one, h1, e⟩ := h
      subst e
      by_cases c : a2 = 0
      · refine op_th (nI (cnt p (grA W p g.1 (nI one) (g.1 56 one) (g.1 55 14)))) hI ?_ ?_
        · rw [b_X11_held_0, v_hasPerson _ g _ n (by omega) hX.2.1.1, mb_some, mp_some, b_X11_held_8, mi_b2, m_if_pos (ix_nI h1), v_isBit, mb_some, mp_some, b_X11_held_15, mi_b2, m_if_pos h2, m_if_pos c]
          refine ok_bnd (x_gripsNow hX _ one h1) ?_
          intro r g2 ⟨hr, F⟩
          subst hr
          rw [mp_some, b_X11_held_32, v_bitCount _ _ _ (bts_12 hp), mb_some, mp_some, b_X11_held_35, pop_bts (by omega)]
          exact ok_some ⟨rfl, fr_2A F⟩
        · intro g1 F1
          have hM1 := MC_fr F1 hM
          rw [b_X12_held_0, v_isOne _ _ _ n (by omega) (MC_n hM1), mb_some, mp_some, b_X12_held_5, mi_b2, m_if_pos (ix_nI h1), v_in _ _ a2 1 2 (by omega) rfl, mb_some, mp_some, b_X12_held_14, mi_b2, m_if_pos h2, m_if_pos c, mi_nI (by omega) (by omega), pk_cl one (hx := rfl), hM1.2.1.2.2.2.1, (hM1.2.1.2.2.2.2 one).1]
          refine ok_bnd (m_heldBy hM1 _ _ _ _) ?_
          intro r g2 ⟨hr, F⟩
          subst hr
          rw [mp_some, b_X12_held_38, b_X12_held_46]
          exact ok_some ⟨rfl, fr_1A F⟩
      · refine op_th (hmx W p g.1 (nI one) (g.1 56 one) (g.1 55 14) p) hI ?_ ?_
        · rw [b_X11_held_0, v_hasPerson _ g _ n (by omega) hX.2.1.1, mb_some, mp_some, b_X11_held_8, mi_b2, m_if_pos (ix_nI h1), v_isBit, mb_some, mp_some, b_X11_held_15, mi_b2, m_if_pos h2, m_if_neg c]
          refine ok_bnd (x_hardestNow hX _ one h1) ?_
          intro r g2 ⟨hr, F⟩
          subst hr
          rw [mp_some, b_X11_held_44]
          exact ok_some ⟨rfl, fr_2A F⟩
        · intro g1 F1
          have hM1 := MC_fr F1 hM
          rw [b_X12_held_0, v_isOne _ _ _ n (by omega) (MC_n hM1), mb_some, mp_some, b_X12_held_5, mi_b2, m_if_pos (ix_nI h1), v_in _ _ a2 1 2 (by omega) rfl, mb_some, mp_some, b_X12_held_14, mi_b2, m_if_pos h2, m_if_neg c]
          refine ok_bnd (m_hardestNow hM1 _ one h1) ?_
          intro r g2 ⟨hr, F⟩
          subst hr
          rw [mp_some, b_X12_held_46]
          exact ok_some ⟨rfl, fr_1A F⟩
    · refine op_bad (-1) hI ?_ ?_
      · rw [b_X11_held_0, v_hasPerson _ g _ n (by omega) hX.2.1.1, mb_some, mp_some, b_X11_held_8, mi_b2, m_if_pos h, v_isBit, mb_some, mp_some, b_X11_held_15, mi_b2, m_if_neg h2]
      · rw [b_X12_held_0, v_isOne _ _ _ n (by omega) (MC_n hM), mb_some, mp_some, b_X12_held_5, mi_b2, m_if_pos h, v_in _ _ a2 1 2 (by omega) rfl, mb_some, mp_some, b_X12_held_14, mi_b2, m_if_neg h2]
  · refine op_bad (-1) hI ?_ ?_
    · rw [b_X11_held_0, v_hasPerson _ g _ n (by omega) hX.2.1.1, mb_some, mp_some, b_X11_held_8, mi_b2, m_if_neg h]
    · rw [b_X12_held_0, v_isOne _ _ _ n (by omega) (MC_n hM), mb_some, mp_some, b_X12_held_5, mi_b2, m_if_neg h]
theorem o_free : op_free Inv 1299 := by
  intro g hI a1
  obtain ⟨n, p, W, hX, hM⟩ := inv_C hI
  have hn : n ≤ 6 := hX.1.1
  have hp : p ≤ 12 := hX.1.2.1
  by_cases h : ix n a1
  · refine op_th (nI (cnt 25 (fun pl => ¬ hld W p g.1 a1 (nI pl) (g.1 55 14)))) hI ?_ ?_
    · obtain ⟨g', e1, F1, hM', hR'⟩ := x_now hX 1298
      rw [b_X11_free_0, v_hasPerson _ g _ n (by omega) hX.2.1.1, mb_some, mp_some, b_X11_free_8, mi_b2, m_if_pos h, e1, mb_some, mp_some, b_X11_free_27]
      refine ok_bnd (x_gripPlaces hM' (V_day hX.1) _ a1) ?_
      intro r g2 ⟨hr, F⟩
      subst hr
      have hlt : gpl W p g.1 a1 (g.1 55 14) < 2 ^ 25 := bts_lt
      rw [mp_some, b_X11_free_30, v_swar, swar_25 _ hlt, mb_some, mp_some, b_X11_free_33]
      refine ok_some ⟨?_, fr_2A (fr_trans F1 (fr_12 F))⟩
      have hs : ∀ k, cnt k (fun pl => hld W p g.1 a1 (nI pl) (g.1 55 14)) + cnt k (fun pl => ¬ hld W p g.1 a1 (nI pl) (g.1 55 14)) = k := by
        intro k
        induction k with
        | zero => rfl
        | succ k ih =>
          by_cases c : hld W p g.1 a1 (nI k) (g.1 55 14)
          · rw [cnt_t c, cnt_f (c := fun pl => ¬ hld W p g.1 a1 (nI pl) (g.1 55 14)) (fun q => q c)]
            omega
          · rw [cnt_f (c := fun pl => hld W p g.1 a1 (nI pl) (g.1 55 14)) c, cnt_t (c := fun pl => ¬ hld W p g.1 a1 (nI pl) (g.1 55 14)) c]
            omega
      unfold gpl
      rw [pop_bts (by omega), show (25 : Int32) = nI 25 from rfl, pk_sub (by have := hs 25; omega)]
      congr 3
      have := hs 25
      omega
    · intro g1 F1
      have hM1 := MC_fr F1 hM
      rw [b_X12_free_0, v_isOne _ _ _ n (by omega) (MC_n hM1), mb_some, mp_some, b_X12_free_5, mi_b2, m_if_pos h]
      refine ok_loop (E := fun e (a : Nat) g => ev none 1299 mm_X12_free 14 [.ref 55, .int a1, .int (nI a), .int (nI e)] [] g) (I := fun e a g3 => a = cnt e (fun pl => ¬ hld W p g.1 a1 (nI pl) (g.1 55 14)) ∧ Fr s1 g1 g3) (P := 25) ?_ ?_ 0 0 g1 (by omega) ⟨rfl, fr_refl⟩
      · intro e a g3 he ⟨ha, hg⟩ next
        have hM2 := MC_fr (fr_1A hg) hM1
        show Ok (ev none 1299 mm_X12_free 14 [.ref 55, .int a1, .int (nI a), .int (nI e)] [] g3) _
        rw [b_X12_free_14, m_if_pos (show nI e < 25 from nI_lt (b := 25) he (by omega)), hM2.2.1.2.2.2.1]
        refine ok_bnd (m_isHeld hM2 _ _ _ _) ?_
        intro r g4 ⟨hr, F⟩
        subst hr
        rw [mp_some, b_X12_free_30, mi_b2]
        refine ok_if (fun c => ?_) (fun c => ?_)
        · rw [b_X12_free_36, nI_1]
          exact next _ g4 ⟨by rw [cnt_f (c := fun pl => ¬ hld W p g.1 a1 (nI pl) (g.1 55 14)) (fun q => q c), ha], fr_trans hg F⟩
        · rw [b_X12_free_36, nI_1, nI_1]
          exact next _ g4 ⟨by rw [cnt_t (c := fun pl => ¬ hld W p g.1 a1 (nI pl) (g.1 55 14)) c, ha], fr_trans hg F⟩
      · intro a g3 ⟨ha, hg⟩
        show Ok (ev none 1299 mm_X12_free 14 [.ref 55, .int a1, .int (nI a), .int (nI 25)] [] g3) _
        rw [b_X12_free_14, m_if_neg (show ¬ nI 25 < 25 by decide)]
        exact ok_some ⟨by rw [ha], fr_1A hg⟩
  · refine op_bad (-1) hI ?_ ?_
    · rw [b_X11_free_0, v_hasPerson _ g _ n (by omega) hX.2.1.1, mb_some, mp_some, b_X11_free_8, mi_b2, m_if_neg h]
    · rw [b_X12_free_0, v_isOne _ _ _ n (by omega) (MC_n hM), mb_some, mp_some, b_X12_free_5, mi_b2, m_if_neg h]
theorem MC_ge {W : mW} {n p : Nat} {h : mH} {g g' : mG} (e : ∀ c k, 55 ≤ c → g'.1 c k = g.1 c k) (hM : MC W n p h g) : MC W n p h g' := by
  obtain ⟨h1, h2, h3⟩ := hM
  have e1 : g'.1 55 = g.1 55 := funext fun k => e 55 k (by omega)
  refine ⟨h1, ?_, ?_⟩
  · unfold MT
    simp only [e 55 _ (by omega), e 56 _ (by omega), e 57 _ (by omega), e 58 _ (by omega), e 59 _ (by omega), e 60 _ (by omega), e 61 _ (by omega), e 62 _ (by omega), e 63 _ (by omega), e 64 _ (by omega), e 65 _ (by omega)]
    exact h2
  · unfold LM
    rw [e1]
    rcases h3 with h3 | ⟨h3, h4⟩
    · exact Or.inl h3
    · exact Or.inr ⟨h3, ML_fr (fun j hj => ⟨e 72 j (by omega), e 73 j (by omega)⟩) (e 74 0 (by omega)) (fun j hj => ⟨e 75 j (by omega), e 76 j (by omega)⟩) h4⟩
theorem MC_s1 {W : mW} {n p : Nat} {h : mH} {g : mG} {a k : Nat} {x : Int32} (ha : a < 55) (hM : MC W n p h g) : MC W n p h (m_s1 g a k x) := MC_ge (fun c j hc => s1_ne (by omega)) hM
/-- the same write on both sides of a frame -/
theorem fr_w {S : Nat → Nat → Bool} {g g' : mG} {a k : Nat} {x y : Int32} (F : Fr S g g') (e : x = y) : Fr S (m_s1 g a k x) (m_s1 g' a k y) := by
  subst e
  refine ⟨fun c j h => ?_, F.2⟩
  rw [s1_r, s1_r]
  split
  · split
    · rfl
    · exact F.1 c j h
  · exact F.1 c j h
theorem bts_ne {p : Nat} {c : Nat → Prop} (hp : p ≤ 12) : nI (bts p c) = 0 ↔ ¬ ∃ q, q < p ∧ c q := by
  have := bts_12 (c := c) hp
  rw [show (0 : Int32) = nI 0 from rfl, nI_eq (by omega) (by omega), bts_0]
  exact ⟨fun h ⟨q, hq, hc⟩ => h q hq hc, fun h q hq hc => h ⟨q, hq, hc⟩⟩
theorem ix5 {x : Int32} : (¬ x < 0 ∧ x < 5) ↔ ix 5 x := ix_lt (n := 5) (by omega)
theorem o_step : op_step Inv 1299 := by
  intro g hI a1 a2
  obtain ⟨n, p, W, hX, hM⟩ := inv_C hI
  have hn : n ≤ 6 := hX.1.1
  have hp : p ≤ 12 := hX.1.2.1
  have i1 : vp_in 1 6 := vp6 (k := 1) (by omega)
  have i2 : vp_in 2 6 := vp6 (k := 2) (by omega)
  by_cases h : ix n a1
  · by_cases h2 : ix 5 a2
    · have h3 := ix5.mpr h2
      obtain ⟨one, h1, e⟩ := h
      subst e
      obtain ⟨way, hw, e⟩ := h2
      subst e
      obtain ⟨pl, hpl, epl⟩ := (hX.1.2.2.2.2.1 one h1).1
      rw [b_X11_step_0, v_hasPerson _ g _ n (by omega) hX.2.1.1, mb_some, mp_some, b_X11_step_8, mi_b2, m_if_pos (ix_nI h1), m_if_neg h3.1, m_if_pos h3.2]
      obtain ⟨r, g', e1, e2, F⟩ := x_gripsNow hX 1293 one h1
      subst e2
      have hX' := XR_fr (fr_2A F) hX
      have ep2 : g'.1 2 one = nI pl := ((hX'.2.1.2.2.1 one (by omega)).1).trans epl
      rw [e1, mb_some, mp_some, b_X11_step_30, mi_c (bts_ne hp), mi_not]
      have m0 : ∀ g1 : mG, MC W n p g.1 g1 → ev none 1299 mm_X12_step 0 [.ref 55, .int (nI one), .int (nI way)] [] g1 = m_bnd (ev none 1298 mm_X12_isHeld 0 [.ref 55, .int (nI one), .int (nI pl), .int (g.1 55 14)] [] g1) (fun r g2 => ev none 1299 mm_X12_step 34 [.ref 55, .int (nI one), .int (nI way)] (m_psh r []) g2) := by
        intro g1 hM1
        rw [b_X12_step_0, v_isOne _ _ _ n (by omega) (MC_n hM1), mb_some, mp_some, b_X12_step_5, mi_b2, m_if_pos (ix_nI h1), v_in _ _ _ 4 5 (by omega) rfl, mb_some, mp_some, b_X12_step_14, mi_b2, m_if_pos (ix_nI hw), mi_nI (by omega) (by omega), pk_cl one (hx := rfl), hM1.2.1.2.2.2.1, (hM1.2.1.2.2.2.2 one).1, epl]
      obtain ⟨nn, pp, nb, W', ⟨v1, v2, v3, v4, v5, v6, v7, v8, v9, v10⟩, ⟨r1, r2, r3, r4, r5, r6, r7, r8⟩, hC, hP, hL, hG, hB, hS⟩ := hI
      by_cases c : ∃ q, q < p ∧ grA W p g.1 (nI one) (g.1 56 one) (g.1 55 14) q
      · rw [m_if_pos c, mi_in i2, mi_in i2, mi_nI (by omega) (by omega), pk_cl one (hx := rfl), ep2]
        have hM1 : MC W n p g.1 (m_s1 g' 10 2 (g'.1 10 2 + 1)) := MC_s1 (by omega) (MC_fr (fr_2A F) hM)
        obtain ⟨r, g3, k1, k2, k3⟩ := m_isHeld hM1 1292 (nI one) (nI pl) (g.1 55 14)
        subst k2
        have ht : hld W p g.1 (nI one) (nI pl) (g.1 55 14) := by rw [← epl]; exact c
        refine ⟨_, _, m_s1 g3 66 2 (g3.1 66 2 + 1), rfl, ?_, ?_⟩
        · have k1' : ev none 1298 mm_X12_isHeld 0 [.ref 55, .int (nI one), .int (nI pl), .int (g.1 55 14)] [] (m_s1 g' 10 2 (g'.1 10 2 + 1)) = _ := k1
          have hM3 := MC_fr (fr_1A k3) hM1
          refine (m0 _ hM1).trans ?_
          rw [k1', mb_some, mp_some, b_X12_step_34, mi_b2, m_if_pos ht, mi_in i2, mi_in i2, mi_nI (by omega) (by omega), pk_cl one (hx := rfl), (hM3.2.1.2.2.2.2 one).1, epl]
          rfl
        · have e10 : g'.1 10 2 = g.1 10 2 := F.1 10 2 rfl
          have e66 : g3.1 66 2 = g.1 66 2 := (k3.1 66 2 rfl).trans (F.1 66 2 rfl)
          have Fc : Fr sA (m_s1 (m_s1 g 10 2 (g.1 10 2 + 1)) 66 2 (g.1 66 2 + 1)) (m_s1 g3 66 2 (g3.1 66 2 + 1)) := fr_w (fr_trans (fr_w (fr_2A F) (by rw [e10])) (fr_1A k3)) (by rw [e66])
          refine inv_fr Fc ⟨nn, pp, nb, W', ⟨v1, v2, v3, v4, v5, v6, v7, v8, v9, v10⟩, ⟨r1, r2, ?_, r4, r5, r6, r7, r8⟩, hC, hP, hL, hG, hB, S_eq hS (fun _ => ⟨rfl, rfl, rfl, rfl, rfl, rfl⟩) rfl rfl rfl⟩
          exact fun i hi => ⟨(r3 i hi).1, (r3 i hi).2.1, upd_eq (by rw [(r3 2 (by omega)).2.2]) (r3 i hi).2.2⟩
      · rw [m_if_neg c, mi_in i1, mi_in i1, mi_nI (by omega) (by omega), pk_cl one (hx := rfl), ep2, v_stepped _ _ pl hpl way hw, mb_some, mp_some, b_X11_step_83, mi_nI (by omega) (by omega), mi_nI (by omega) (by omega), pk_cl one (hx := rfl), s1_at]
        have hM1 : MC W n p g.1 (m_s1 (m_s1 g' 10 1 (g'.1 10 1 + 1)) 2 one (nI (st pl way))) := MC_s1 (by omega) (MC_s1 (by omega) (MC_fr (fr_2A F) hM))
        obtain ⟨r, g3, k1, k2, k3⟩ := m_isHeld hM1 1292 (nI one) (nI pl) (g.1 55 14)
        subst k2
        have ht : ¬ hld W p g.1 (nI one) (nI pl) (g.1 55 14) := by rw [← epl]; exact c
        have hM3 := MC_fr (fr_1A k3) hM1
        refine ⟨_, _, m_s1 (m_s1 g3 56 one (nI (st pl way))) 66 1 (g3.1 66 1 + 1), rfl, ?_, ?_⟩
        · have k1' : ev none 1298 mm_X12_isHeld 0 [.ref 55, .int (nI one), .int (nI pl), .int (g.1 55 14)] [] (m_s1 (m_s1 g' 10 1 (g'.1 10 1 + 1)) 2 one (nI (st pl way))) = _ := k1
          refine (m0 _ hM1).trans ?_
          rw [k1', mb_some, mp_some, b_X12_step_34, mi_b2, m_if_neg ht, mi_nI (by omega) (by omega), pk_cl one (hx := rfl), (hM3.2.1.2.2.2.2 one).1, epl, v_steppedM _ _ pl hpl way hw, mb_some, mp_some, b_X12_step_69, mi_nI (by omega) (by omega), mi_in i1, mi_in i1, mi_nI (by omega) (by omega), pk_cl one (hx := rfl), s1_at]
          rfl
        · have e10 : g'.1 10 1 = g.1 10 1 := F.1 10 1 rfl
          have e66 : g3.1 66 1 = g.1 66 1 := (k3.1 66 1 rfl).trans (F.1 66 1 rfl)
          have Fc : Fr sA (m_s1 (m_s1 (m_s1 (m_s1 g 10 1 (g.1 10 1 + 1)) 2 one (nI (st pl way))) 56 one (nI (st pl way))) 66 1 (g.1 66 1 + 1)) (m_s1 (m_s1 g3 56 one (nI (st pl way))) 66 1 (g3.1 66 1 + 1)) := fr_w (fr_w (fr_trans (fr_w (fr_w (fr_2A F) (by rw [e10])) rfl) (fr_1A k3)) rfl) (by rw [e66])
          have hst := st_lt pl hpl way hw
          refine inv_fr Fc ⟨nn, pp, nb, W', ⟨v1, v2, v3, v4, ?_, v6, v7, v8, v9, v10⟩, ⟨r1, r2, ?_, r4, r5, r6, r7, r8⟩, hC, hP, hL, hG, hB, S_eq hS (fun _ => ⟨rfl, rfl, rfl, rfl, rfl, rfl⟩) rfl rfl rfl⟩
          · exact fun i hi => ⟨ix_upd ⟨_, hst, rfl⟩ (v5 i hi).1, (v5 i hi).2⟩
          · exact fun i hi => ⟨upd_eq rfl (r3 i hi).1, (r3 i hi).2.1, upd_eq (by rw [(r3 1 (by omega)).2.2]) (r3 i hi).2.2⟩
    · refine op_bad (-1) hI ?_ ?_
      · rw [b_X11_step_0, v_hasPerson _ g _ n (by omega) hX.2.1.1, mb_some, mp_some, b_X11_step_8, mi_b2, m_if_pos h]
        by_cases c : a2 < 0
        · rw [m_if_pos c]
        · rw [m_if_neg c, m_if_neg (fun c2 => h2 (ix5.mp ⟨c, c2⟩))]
      · rw [b_X12_step_0, v_isOne _ _ _ n (by omega) (MC_n hM), mb_some, mp_some, b_X12_step_5, mi_b2, m_if_pos h, v_in _ _ a2 4 5 (by omega) rfl, mb_some, mp_some, b_X12_step_14, mi_b2, m_if_neg h2]
  · refine op_bad (-1) hI ?_ ?_
    · rw [b_X11_step_0, v_hasPerson _ g _ n (by omega) hX.2.1.1, mb_some, mp_some, b_X11_step_8, mi_b2, m_if_neg h]
    · rw [b_X12_step_0, v_isOne _ _ _ n (by omega) (MC_n hM), mb_some, mp_some, b_X12_step_5, mi_b2, m_if_neg h]
theorem o_pull : op_pull Inv 1299 := by
  intro g hI a1
  obtain ⟨n, p, W, hX, hM⟩ := inv_C hI
  have hn : n ≤ 6 := hX.1.1
  have hp : p ≤ 12 := hX.1.2.1
  have i3 : vp_in 3 6 := vp6 (k := 3) (by omega)
  by_cases h : ix p a1
  · obtain ⟨q, hq, e⟩ := h
    subst e
    obtain ⟨by_, hby, eby⟩ := (hX.1.2.2.2.2.2.1 q hq).1
    obtain ⟨bo, hbo, ebo⟩ := (hX.1.2.2.2.2.1 by_ hby).2
    have eX : g.1 4 q = nI by_ := ((hX.2.1.2.2.2.1 q (by omega)).1).trans eby
    rw [b_X11_pull_0, v_hasPromise _ g _ p (by omega) hX.2.1.2.1, mb_some, mp_some, b_X11_pull_8, mi_b2, m_if_pos (ix_nI hq), mi_nI (by omega) (by omega), pk_cl q (hx := rfl), eX]
    obtain ⟨r, g', e1, e2, F⟩ := x_gripsNow hX 1293 by_ hby
    subst e2
    have hX' := XR_fr (fr_2A F) hX
    have hbt : bts p (grA W p g.1 (nI by_) (g.1 56 by_) (g.1 55 14)) < 4096 := bts_12 hp
    have eb3 : g'.1 3 by_ = nI bo := ((hX'.2.1.2.2.1 by_ (by omega)).2.1).trans ebo
    have tb : (bts p (grA W p g.1 (nI by_) (g.1 56 by_) (g.1 55 14))).testBit q = true ↔ (g.1 60 q = g.1 56 by_ ∧ grp W p g.1 (g.1 55 14) q) := by
      rw [bts_bit]
      exact ⟨fun x => x.2.2, fun x => ⟨hq, eby, x⟩⟩
    rw [e1, mb_some, mp_some, b_X11_pull_31, v_hasBit _ _ _ q (by omega) (by omega), mb_some, mp_some, b_X11_pull_35, mi_b2, mi_c tb, mi_nI (by omega) (by omega), pk_cl by_ (hx := rfl), eb3]
    have m0 : ∀ g1 : mG, MC W n p g.1 g1 → ev none 1299 mm_X12_pull 0 [.ref 55, .int (nI q), .null] [] g1 = m_bnd (ev none 1298 mm_X12_holdsAt 0 [.ref 55, .int (nI q), .int (g.1 56 by_), .int (g.1 55 14)] [] g1) (fun r g2 => ev none 1299 mm_X12_pull 32 [.ref 55, .int (nI q), .int (nI by_)] (m_psh r []) g2) := by
      intro g1 hM1
      rw [b_X12_pull_0, v_isPromise _ _ _ p (by omega) (MC_p hM1), mb_some, mp_some, b_X12_pull_5, mi_b2, m_if_pos (ix_nI hq), mi_nI (by omega) (by omega), pk_cl q (hx := rfl), (hM1.2.1.2.2.2.2 q).2.2.1, eby, mi_nI (by omega) (by omega), pk_cl by_ (hx := rfl), hM1.2.1.2.2.2.1, (hM1.2.1.2.2.2.2 by_).1]
    by_cases c : g.1 60 q = g.1 56 by_ ∧ grp W p g.1 (g.1 55 14) q
    · by_cases c2 : bo = 0
      · subst c2
        rw [m_if_pos c, m_if_pos (show nI 0 < 1 by decide)]
        have hM1 : MC W n p g.1 g' := MC_fr (fr_2A F) hM
        obtain ⟨r, g3, k1, k2, k3⟩ := m_holdsAt hM1 1294 q hq (g.1 56 by_) (g.1 55 14)
        subst k2
        have hM3 := MC_fr (fr_1A k3) hM1
        refine ⟨_, _, g3, rfl, ?_, inv_fr (fr_1A k3) (inv_fr (fr_2A F) hI)⟩
        refine (m0 _ hM1).trans ?_
        have k1' : ev none 1298 mm_X12_holdsAt 0 [.ref 55, .int (nI q), .int (g.1 56 by_), .int (g.1 55 14)] [] g' = _ := k1
        rw [k1', mb_some, mp_some, b_X12_pull_32, mi_b2, m_if_pos c, mi_nI (by omega) (by omega), pk_cl by_ (hx := rfl), (hM3.2.1.2.2.2.2 by_).2.1, ebo, m_if_pos (show nI 0 = 0 from rfl)]
      · have es : nI bo - 1 = nI (bo - 1) := pk_sub (a := bo) (b := 1) (by omega)
        have n1 : ¬ nI bo < 1 := nI_nlt (b := 1) (by omega) (by omega)
        have n2 : ¬ nI bo = 0 := nI_ne0 (by omega) (by omega)
        rw [m_if_pos c, m_if_neg n1, mi_nI (by omega) (by omega), mi_nI (by omega) (by omega), mi_in i3, mi_in i3, mi_nI (by omega) (by omega), s1_at, es]
        have hM1 : MC W n p g.1 (m_s1 (m_s1 (m_s1 g' 1 15 (g'.1 1 15 ||| (1 <<< (nI q &&& 31)))) 3 by_ (nI (bo - 1))) 10 3 (g'.1 10 3 + 1)) := MC_s1 (by omega) (MC_s1 (by omega) (MC_s1 (by omega) (MC_fr (fr_2A F) hM)))
        obtain ⟨r, g3, k1, k2, k3⟩ := m_holdsAt hM1 1294 q hq (g.1 56 by_) (g.1 55 14)
        subst k2
        have hM3 := MC_fr (fr_1A k3) hM1
        have e57 : g3.1 57 by_ = nI bo := ((hM3.2.1.2.2.2.2 by_).2.1).trans ebo
        refine ⟨_, _, m_s1 (m_s1 (m_s1 g3 65 q 1) 57 by_ (nI (bo - 1))) 66 3 (g3.1 66 3 + 1), rfl, ?_, ?_⟩
        · have k1' : ev none 1298 mm_X12_holdsAt 0 [.ref 55, .int (nI q), .int (g.1 56 by_), .int (g.1 55 14)] [] (m_s1 (m_s1 (m_s1 g' 1 15 (g'.1 1 15 ||| (1 <<< (nI q &&& 31)))) 3 by_ (nI (bo - 1))) 10 3 (g'.1 10 3 + 1)) = _ := k1
          refine (m0 _ hM1).trans ?_
          have e57' : (m_s1 g3 65 q 1).1 57 by_ = nI bo := (s1_ne (by omega)).trans e57
          rw [k1', mb_some, mp_some, b_X12_pull_32, mi_b2, m_if_pos c, mi_nI (i := by_) (by omega) (by omega), pk_cl by_ (hx := rfl), e57, m_if_neg n2, mi_nI (i := q) (by omega) (by omega), mi_nI (i := by_) (by omega) (by omega), mi_nI (i := by_) (by omega) (by omega), mi_in i3, mi_in i3, mi_nI (i := by_) (by omega) (by omega), pk_cl q (hx := rfl), e57', es]
          rw [s1_ne (by omega), s1_at]
          rfl
        · have e10 : g'.1 10 3 = g.1 10 3 := F.1 10 3 rfl
          have e15 : g'.1 1 15 = g.1 1 15 := F.1 1 15 rfl
          have e66 : g3.1 66 3 = g.1 66 3 := (k3.1 66 3 rfl).trans (F.1 66 3 rfl)
          have Fc : Fr sA (m_s1 (m_s1 (m_s1 (m_s1 (m_s1 (m_s1 g 1 15 (g.1 1 15 ||| (1 <<< (nI q &&& 31)))) 3 by_ (nI (bo - 1))) 10 3 (g.1 10 3 + 1)) 65 q 1) 57 by_ (nI (bo - 1))) 66 3 (g.1 66 3 + 1)) (m_s1 (m_s1 (m_s1 g3 65 q 1) 57 by_ (nI (bo - 1))) 66 3 (g3.1 66 3 + 1)) := fr_w (fr_w (fr_w (fr_trans (fr_w (fr_w (fr_w (fr_2A F) (by rw [e15])) rfl) (by rw [e10])) (fr_1A k3)) rfl) rfl) (by rw [e66])
          obtain ⟨nn, pp, nb, W', ⟨v1, v2, v3, v4, v5, v6, v7, v8, v9, v10⟩, ⟨r1, r2, r3, r4, r5, r6, r7, r8⟩, hC, hP, hL, hG, hB, hS⟩ := hI
          have epp : p = pp := by
            have a1 := hX.2.1.2.1
            rw [r2] at a1
            exact ((nI_eq (by omega) (by omega)).mp a1).symm
          refine inv_fr Fc ⟨nn, pp, nb, W', ⟨v1, v2, v3, v4, ?_, v6, ?_, ?_, v9, v10⟩, ⟨r1, r2, ?_, r4, r5, BT_set r6 (by omega), r7, r8⟩, hC, hP, hL, hG, hB, S_eq hS (fun _ => ⟨rfl, rfl, rfl, rfl, rfl, rfl⟩) rfl rfl rfl⟩
          · exact fun i hi => ⟨(v5 i hi).1, ix_upd ⟨bo - 1, by omega, rfl⟩ (v5 i hi).2⟩
          · exact fun i hi => ⟨(v7 i hi).1, ix_upd ⟨1, by omega, rfl⟩ (v7 i hi).2⟩
          · exact fun i hi hi2 => ⟨(v8 i hi hi2).1, (upd_ne (by omega)).trans (v8 i hi hi2).2⟩
          · exact fun i hi => ⟨(r3 i hi).1, upd_eq rfl (r3 i hi).2.1, upd_eq (by rw [(r3 3 (by omega)).2.2]) (r3 i hi).2.2⟩
    · rw [m_if_neg c]
      have hM1 : MC W n p g.1 g' := MC_fr (fr_2A F) hM
      obtain ⟨r, g3, k1, k2, k3⟩ := m_holdsAt hM1 1294 q hq (g.1 56 by_) (g.1 55 14)
      subst k2
      refine ⟨_, _, g3, rfl, ?_, inv_fr (fr_1A k3) (inv_fr (fr_2A F) hI)⟩
      refine (m0 _ hM1).trans ?_
      have k1' : ev none 1298 mm_X12_holdsAt 0 [.ref 55, .int (nI q), .int (g.1 56 by_), .int (g.1 55 14)] [] g' = _ := k1
      rw [k1', mb_some, mp_some, b_X12_pull_32, mi_b2, m_if_neg c]
  · refine op_bad (-1) hI ?_ ?_
    · rw [b_X11_pull_0, v_hasPromise _ g _ p (by omega) hX.2.1.2.1, mb_some, mp_some, b_X11_pull_8, mi_b2, m_if_neg h]
    · rw [b_X12_pull_0, v_isPromise _ _ _ p (by omega) (MC_p hM), mb_some, mp_some, b_X12_pull_5, mi_b2, m_if_neg h]
