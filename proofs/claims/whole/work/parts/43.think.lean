/-! IN THOUGHT (1): day by day -/
def HH (W : mW) (p : Nat) (h : mH) (one k pl : Nat) : Prop := hld W p h (nI one) (nI pl) (dy (h 55 14) (nI k))
noncomputable def KB (p : Nat) (h : mH) (one k pl : Nat) : Nat := bts p (kpA h (nI one) (nI pl) (dy (h 55 14) (nI k)))
theorem KB_lt {n p : Nat} {h : mH} (hV : V n p h) (one k pl : Nat) : KB p h one k pl < 4096 := bts_12 hV.2.1
theorem dy_0 {t : Int32} (h : ix 100 t) : dy t (nI 0) = t := by
  obtain ⟨j, hj, e⟩ := h
  subst e
  rw [dy_nI hj (by omega)]
  by_cases c : j + 0 < 99
  · rw [if_pos c]; rfl
  · rw [if_neg c, show j = 99 by omega]
/-- the class thinks of one, so many days on -/
def TH (W : mW) (p : Nat) (h : mH) (one D : Nat) (g : mG) : Prop := g.1 19 5 = nI one ∧ ∀ k, k ≤ D → g.1 20 k = nI (bts 25 (HH W p h one k))
theorem TH_fr {W : mW} {p : Nat} {h : mH} {one D : Nat} {g g' : mG} (F : Fr s2 g g') (hT : TH W p h one D g) : TH W p h one D g' := ⟨(F.1 19 5 rfl).trans hT.1, fun k hk => (F.1 20 k rfl).trans (hT.2 k hk)⟩
theorem x_thinkOf {W : mW} {n p : Nat} {h : mH} {g : mG} (hX : XR W n p h g) (d : Nat) (one D : Nat) (h1 : one < n) (hD : D ≤ 40) : Ok (ev none (d + 5) mm_X10_thinkOf 0 [.ref 19, .int (nI one), .int (nI D), .null, .null] [] g) (fun r g2 => r = none ∧ Fr sA g g2 ∧ TH W p h one D g2) := by
  have F0 : Fr sA g (m_s1 g 19 5 (nI one)) := fr_s1 fr_refl rfl
  obtain ⟨g', e1, F1, hM, hR⟩ := x_now (XR_fr F0 hX) (d + 4)
  have hday := V_day hX.1
  rw [b_X10_thinkOf_0, e1, mb_some, mp_some, b_X10_thinkOf_12]
  have F01 : Fr sA g g' := fr_trans F0 (fr_2A F1)
  refine ok_loop (E := fun e (_ : Unit) g => ev none (d + 5) mm_X10_thinkOf 16 [.ref 19, .int (nI one), .int (nI D), .ref 15, .int (nI e)] [] g) (I := fun e _ g3 => Fr sA g g3 ∧ g3.1 19 5 = nI one ∧ (∀ k, k < e → g3.1 20 k = nI (bts 25 (HH W p h one k))) ∧ BT (g3.1 15 1) (h 65) ∧ BT (g3.1 15 2) (h 64) ∧ g3.1 15 3 = 0) (P := D + 1) ?_ ?_ 0 () g' (by omega) ⟨F01, (F1.1 19 5 rfl).trans s1_at, fun k hk => by omega, hM.2.2.2.2⟩
  · intro e _ g3 he ⟨i1, i2, i3, i4, i5, i6⟩ next
    have hX3 := XR_fr i1 hX
    have hd1 : ix 100 (dy (h 55 14) (nI e)) := dy_ix hday (by omega)
    have hXM : XM W n p h (dy (h 55 14) (nI e)) (m_s1 g3 15 0 (dy (h 55 14) (nI e))) := ⟨hX.1, XT_fr (fr_2A (fr_s1 fr_refl rfl)) (RX_XT hX3.2.1), LX_fr (fr_2A (fr_s1 fr_refl rfl)) hX3.2.2, ⟨rfl, i4, i5, i6⟩⟩
    show Ok (ev none (d + 5) mm_X10_thinkOf 16 [.ref 19, .int (nI one), .int (nI D), .ref 15, .int (nI e)] [] g3) _
    rw [b_X10_thinkOf_16, m_if_neg (nI_nlt (by omega) (by omega)), m_if_pos (show nI e < 41 from nI_lt (b := 41) (by omega) (by omega)), hX3.2.1.2.2.2.2.2.2.2, v_dayBehind, mb_some, mp_some, b_X10_thinkOf_45, i2]
    refine ok_bnd (x_gripPlaces hXM hd1 d (nI one)) ?_
    intro r g4 ⟨hr, F⟩
    subst hr
    rw [mp_some, b_X10_thinkOf_66, mi_nI (by omega) (by omega), pk_cl e (hx := rfl), nI_1]
    refine next () _ ⟨?_, ?_, ?_, ?_, ?_, ?_⟩
    · exact fr_s1 (fr_trans i1 (fr_trans (fr_s1 fr_refl rfl) (fr_1A F))) rfl
    · rw [s1_ne (by omega), F.1 19 5 rfl, s1_ne (by omega), i2]
    · intro k hk
      rw [s1_r, if_pos rfl]
      by_cases c : k = e
      · rw [if_pos c, c]; rfl
      · rw [if_neg c, F.1 20 k rfl, s1_ne (by omega), i3 k (by omega)]
    · rw [s1_ne (by omega), F.1 15 1 rfl, s1_same (by omega)]; exact i4
    · rw [s1_ne (by omega), F.1 15 2 rfl, s1_same (by omega)]; exact i5
    · rw [s1_ne (by omega), F.1 15 3 rfl, s1_same (by omega)]; exact i6
  · intro _ g3 ⟨i1, i2, i3, i4, i5, i6⟩
    show Ok (ev none (d + 5) mm_X10_thinkOf 16 [.ref 19, .int (nI one), .int (nI D), .ref 15, .int (nI (D + 1))] [] g3) _
    rw [b_X10_thinkOf_16, m_if_pos (nI_lt (by omega) (by omega))]
    exact ok_some ⟨rfl, i1, i2, fun k hk => i3 k (by omega)⟩
theorem x_isHeld {W : mW} {p : Nat} {h : mH} {one D : Nat} {g : mG} (hT : TH W p h one D g) (hD : D ≤ 40) (d : Nat) (pl k : Nat) (hpl : pl < 25) (hk : k ≤ D) : ev none (d + 1) mm_X10_isHeld 0 [.ref 19, .int (nI pl), .int (nI k)] [] g = some (some (.int (b2 (HH W p h one k pl))), g) := by
  have hlt : bts 25 (HH W p h one k) < 2 ^ 25 := bts_lt
  rw [b_X10_isHeld_0, m_if_neg (nI_pos (by omega)), m_if_pos (show nI k < 41 from nI_lt (b := 41) (by omega) (by omega)), mi_nI (by omega) (by omega), pk_cl k (hx := rfl), hT.2 k hk, v_hasBit _ _ _ pl (by omega) (by omega), mb_some, mp_some, b_X10_isHeld_23, mi_b2, mi_tt]
  refine congrArg (fun z => some (some (Value.int z), g)) (b2_c ?_)
  rw [bts_bit]
  exact ⟨fun x => x.2, fun x => ⟨hpl, x⟩⟩
theorem x_keptAt {W : mW} {n p : Nat} {h : mH} {one : Nat} {g : mG} (hX : XR W n p h g) (hT : g.1 19 5 = nI one) (d : Nat) (pl k : Nat) : ev none (d + 3) mm_X10_keptAt 0 [.ref 19, .int (nI pl), .int (nI k)] [] g = some (some (.int (nI (KB p h one k pl))), g) := by
  rw [b_X10_keptAt_0, hX.2.1.2.2.2.2.2.2.2, v_dayBehind, mb_some, mp_some, b_X10_keptAt_20, hT, x_onAt hX, mb_some, mp_some, b_X10_keptAt_23]
  rfl
/-- a row of bytes, as both have it -/
def RW (s L : Nat) (f : Nat → Int32) (g : mG) : Prop := L ≤ 60 ∧ g.1 (43 + 2 * s) 3 = nI L ∧ g.1 91 s = nI L ∧ (∀ j, j < L → ∃ z : Int8, g.2 (44 + 2 * s) j = z.toInt64) ∧ (∀ j, j < L → Int64.toInt32 (g.2 (44 + 2 * s) j) = f j) ∧ ∀ j, j < L → Int64.toInt32 (g.2 92 (60 * s + j)) = f j
theorem RW_fr {s L : Nat} {f : Nat → Int32} {g g' : mG} (hs : s < 6) (F : Fr sA g g') (h : RW s L f g) : RW s L f g' := by
  obtain ⟨h1, h2, h3, h4, h5, h6⟩ := h
  refine ⟨h1, (F.1 _ 3 (sA43 hs).1).trans h2, (F.1 91 s rfl).trans h3, fun j hj => ?_, fun j hj => ?_, fun j hj => ?_⟩
  · rw [F.2 _ j (sA43 hs).2]; exact h4 j hj
  · rw [F.2 _ j (sA43 hs).2]; exact h5 j hj
  · rw [F.2 92 _ rfl]; exact h6 j hj
theorem rf_0 {nb s : Nat} {g : mG} (hs : s < 6) (hnb : nb ≤ 50) (hS : I_S nb g) : (rf (g.1 90 s) < 0) ∨ (rf (g.1 90 s) = 0 ∧ ∃ L f, RW s L f g) := by
  unfold rf
  rcases hS s hs with ⟨h1, h2, h3⟩ | ⟨b, hb, h1, h2, h3⟩ | ⟨t, L, ht, hL, h1, h2, h3, h4, h5, h6, h7⟩
  · rw [h3, if_pos rfl]; exact Or.inl (by decide)
  · have n1 := nI_neg (b := b) (by omega)
    rw [h3, if_neg n1.1, if_neg n1.2]; exact Or.inl (by decide)
  · have n1 := hold_t t ht
    rw [h4, if_neg n1.1]
    by_cases e : t = 0
    · rw [if_pos (n1.2.2.1.mpr e)]
      exact Or.inr ⟨rfl, L, fun j => Int64.toInt32 (g.2 (44 + 2 * s) j), hL, h3, h5, h7 e, fun j _ => rfl, fun j hj => by rw [← h6 j hj]⟩
    · rw [if_neg (fun q => e (n1.2.2.1.mp q))]; exact Or.inl (by decide)
theorem rf_ne {x : Int32} (h : rf x < 0) : ¬ rf x = 0 := fun e => by
  rw [e] at h
  exact absurd h (by decide)
theorem rf_nn {x : Int32} (h : rf x = 0) : ¬ rf x < 0 := fun e => by
  rw [h] at e
  exact absurd e (by decide)
theorem by_5 (z : Int8) : (¬ (z.toInt64 < 0) ∧ z.toInt64 < 5) ↔ ix 5 (z.toInt64.toInt32) := by
  have e : z.toInt64.toInt32.toInt = z.toInt := by simp
  have e2 : z.toInt64.toInt = z.toInt := by simp
  have e0 : (0 : Int64).toInt = 0 := by decide
  have e5 : (5 : Int64).toInt = 5 := by decide
  have f0 : (0 : Int32).toInt = 0 := by decide
  have f5 : (5 : Int32).toInt = 5 := by decide
  rw [← ix5, Int64.lt_iff_toInt_lt, Int64.lt_iff_toInt_lt, Int32.lt_iff_toInt_lt, Int32.lt_iff_toInt_lt, e, e2, e0, e5, f0, f5]
/-- how many steps a row tells -/
def SN (L : Nat) (f : Nat → Int32) (K : Nat) : Prop := K ≤ 30 ∧ K ≤ L ∧ (∀ j, j < K → ix 5 (f j)) ∧ (K = 30 ∨ K = L ∨ ¬ ix 5 (f K))
theorem SN_ex (L : Nat) (f : Nat → Int32) : ∃ K, SN L f K := by
  obtain ⟨K, h1, h2⟩ := pk_least (fun k => k = 30 ∨ k = L ∨ ¬ ix 5 (f k)) ⟨30, Or.inl rfl⟩
  refine ⟨K, ?_, ?_, fun j hj => Classical.byContradiction (fun c => h2 j hj (Or.inr (Or.inr c))), h1⟩
  · exact Decidable.byContradiction (fun c => h2 30 (by omega) (Or.inl rfl))
  · exact Decidable.byContradiction (fun c => h2 L (by omega) (Or.inr (Or.inl rfl)))
theorem x_steps {s L K : Nat} {f : Nat → Int32} {g : mG} (hs : s < 6) (hR : RW s L f g) (hK : SN L f K) (d : Nat) : ev none d mm_X7_steps 0 [.ref (43 + 2 * s), .null] [] g = some (some (.int (nI K)), g) := by
  obtain ⟨h1, h2, h3, h4, h5, h6⟩ := hR
  obtain ⟨k1, k2, k3, k4⟩ := hK
  rw [b_X7_steps_0 (isSh6 hs)]
  refine ok_eq (ok_loop (E := fun e (_ : Unit) g => ev none d mm_X7_steps 2 [.ref (43 + 2 * s), .int (nI e)] [] g) (I := fun e _ g' => g' = g) (P := K) ?_ ?_ 0 () g (by omega) rfl)
  · intro e _ g' he hg next
    subst hg
    obtain ⟨z, hz⟩ := h4 e (by omega)
    have hx := (by_5 z).mpr (by rw [← hz, h5 e (by omega)]; exact k3 e he)
    show Ok (ev none d mm_X7_steps 2 [.ref (43 + 2 * s), .int (nI e)] [] g') _
    rw [b_X7_steps_2 (isSh6 hs), h2, m_if_pos (nI_lt (by omega) (by omega)), m_if_pos (show nI e < 30 from nI_lt (b := 30) (by omega) (by omega)), mi_nI (by omega) (by omega), mi_nI (by omega) (by omega), pk_cl e (hx := rfl), hz, m_if_neg (fun c => hx.1 ((lg_cmp_lt _ _).mp c)), m_if_pos ((lg_cmp_lt _ _).mpr hx.2), nI_1]
    exact next () _ rfl
  · intro _ g' hg
    subst hg
    show Ok (ev none d mm_X7_steps 2 [.ref (43 + 2 * s), .int (nI K)] [] g') _
    rw [b_X7_steps_2 (isSh6 hs), h2]
    refine ok_if (fun c => ?_) (fun c => ok_some ⟨rfl, rfl⟩)
    refine ok_if (fun c2 => ?_) (fun c2 => ok_some ⟨rfl, rfl⟩)
    have hKL : K < L := (nI_ltI (by omega) (by omega)).mp c
    have hK30 : K < 30 := (nI_ltI (b := 30) (by omega) (by omega)).mp c2
    have k5 : ¬ ix 5 (f K) := by
      rcases k4 with e | e | e
      · omega
      · omega
      · exact e
    obtain ⟨z, hz⟩ := h4 K hKL
    rw [mi_nI (by omega) (by omega), mi_nI (by omega) (by omega), pk_cl K (hx := rfl), hz]
    refine ok_if (fun c3 => ok_some ⟨rfl, rfl⟩) (fun c3 => ?_)
    refine ok_if (fun c4 => ?_) (fun c4 => ok_some ⟨rfl, rfl⟩)
    refine absurd ((by_5 z).mp ⟨fun q => c3 ((lg_cmp_lt _ _).mpr q), (lg_cmp_lt _ _).mp c4⟩) ?_
    rw [← hz, h5 K hKL]
    exact k5
theorem m_at {s L : Nat} {f : Nat → Int32} {g : mG} (hs : s < 6) (hR : RW s L f g) (d : Nat) (j : Nat) (hj : j < L) : ev none d mm_X12_at 0 [.ref 55, .int (nI s), .int (nI j)] [] g = some (some (.int (f j)), g) := by
  obtain ⟨h1, h2, h3, h4, h5, h6⟩ := hR
  have ei : (60 : Int32) * nI s + nI j = nI (60 * s + j) := by
    rw [show (60 : Int32) = nI 60 from rfl, pk_mul, nI_add]
  rw [b_X12_at_0, ei, mi_nI (by omega) (by omega), pk_cl (60 * s + j) (hx := rfl), h6 j hj]
theorem x_num {s L : Nat} {f : Nat → Int32} {g : mG} (hs : s < 6) (hR : RW s L f g) (d : Nat) (j : Nat) (hj : j < L) : ev none d mm_X7_number 0 [.ref (43 + 2 * s), .int (nI j)] [] g = some (some (.int (f j)), g) := by
  rw [v_number hs d g hR.1 hR.2.1 hj, hR.2.2.2.2.1 j hj]
theorem m_steps {s L K : Nat} {f : Nat → Int32} {g : mG} (hs : s < 6) (hR : RW s L f g) (hK : SN L f K) (d : Nat) : ev none (d + 1) mm_X12_stepsOf 0 [.ref 55, .int (nI s), .null] [] g = some (some (.int (nI K)), g) := by
  have hR0 := hR
  obtain ⟨h1, h2, h3, h4, h5, h6⟩ := hR
  obtain ⟨k1, k2, k3, k4⟩ := hK
  have i4 : (4 : Int32) = nI 5 - 1 := by decide
  rw [b_X12_stepsOf_0]
  refine ok_eq (ok_loop (E := fun e (_ : Unit) g => ev none (d + 1) mm_X12_stepsOf 2 [.ref 55, .int (nI s), .int (nI e)] [] g) (I := fun e _ g' => g' = g) (P := K) ?_ ?_ 0 () g (by omega) rfl)
  · intro e _ g' he hg next
    subst hg
    show Ok (ev none (d + 1) mm_X12_stepsOf 2 [.ref 55, .int (nI s), .int (nI e)] [] g') _
    rw [b_X12_stepsOf_2, m_if_pos (show nI e < 30 from nI_lt (b := 30) (by omega) (by omega)), mi_nI hs (by omega), pk_cl s (hx := rfl), h3, m_if_pos (nI_lt (by omega) (by omega)), m_at hs hR0 _ e (by omega), mb_some, mp_some, b_X12_stepsOf_24, v_in _ _ _ 4 5 (by omega) i4, mb_some, mp_some, b_X12_stepsOf_29, mi_b2, m_if_pos (k3 e he), nI_1]
    exact next () _ rfl
  · intro _ g' hg
    subst hg
    show Ok (ev none (d + 1) mm_X12_stepsOf 2 [.ref 55, .int (nI s), .int (nI K)] [] g') _
    rw [b_X12_stepsOf_2]
    refine ok_if (fun c2 => ?_) (fun c2 => ok_some ⟨rfl, rfl⟩)
    rw [mi_nI hs (by omega), pk_cl s (hx := rfl), h3]
    refine ok_if (fun c => ?_) (fun c => ok_some ⟨rfl, rfl⟩)
    have hKL : K < L := (nI_ltI (by omega) (by omega)).mp c
    have hK30 : K < 30 := (nI_ltI (b := 30) (by omega) (by omega)).mp c2
    have k5 : ¬ ix 5 (f K) := by
      rcases k4 with e | e | e
      · omega
      · omega
      · exact e
    rw [m_at hs hR0 _ K hKL, mb_some, mp_some, b_X12_stepsOf_24, v_in _ _ _ 4 5 (by omega) i4, mb_some, mp_some, b_X12_stepsOf_29, mi_b2, m_if_neg k5]
    exact ok_some ⟨rfl, rfl⟩
/-- along a route: where, how often held, what was kept -/
noncomputable def rtP (H : Nat → Nat → Prop) (w : Nat → Nat) (P0 : Nat) : Nat → Nat
  | 0 => P0
  | k + 1 => @ite _ (H k (rtP H w P0 k)) (Classical.propDecidable _) (rtP H w P0 k) (st (rtP H w P0 k) (w k))
noncomputable def rtH (H : Nat → Nat → Prop) (w : Nat → Nat) (P0 : Nat) : Nat → Nat
  | 0 => 0
  | k + 1 => @ite _ (H k (rtP H w P0 k)) (Classical.propDecidable _) (rtH H w P0 k + 1) (rtH H w P0 k)
noncomputable def rtB (H : Nat → Nat → Prop) (B : Nat → Nat → Nat) (w : Nat → Nat) (P0 : Nat) : Nat → Nat
  | 0 => B 0 P0
  | k + 1 => rtB H B w P0 k ||| B (k + 1) (rtP H w P0 (k + 1))
theorem rtP_lt {H : Nat → Nat → Prop} {w : Nat → Nat} {P0 K : Nat} (h0 : P0 < 25) (hw : ∀ j, j < K → w j < 5) : ∀ k, k ≤ K → rtP H w P0 k < 25 := by
  intro k
  induction k with
  | zero => intro _; exact h0
  | succ k ih =>
    intro hk
    have := ih (by omega)
    show @ite _ _ (Classical.propDecidable _) _ _ < 25
    by_cases c : H k (rtP H w P0 k)
    · rw [if_pos c]; exact this
    · rw [if_neg c]; exact st_lt _ this _ (hw k (by omega))
theorem rtB_lt {H : Nat → Nat → Prop} {B : Nat → Nat → Nat} {w : Nat → Nat} {P0 : Nat} (hB : ∀ k pl, B k pl < 4096) : ∀ k, rtB H B w P0 k < 4096 := by
  intro k
  induction k with
  | zero => exact hB _ _
  | succ k ih => exact Nat.or_lt_two_pow (n := 12) ih (hB _ _)
theorem rtP_h {H : Nat → Nat → Prop} {w : Nat → Nat} {P0 k : Nat} (c : H k (rtP H w P0 k)) : rtP H w P0 (k + 1) = rtP H w P0 k := by
  show @ite _ _ (Classical.propDecidable _) _ _ = _
  rw [if_pos c]
theorem rtP_s {H : Nat → Nat → Prop} {w : Nat → Nat} {P0 k : Nat} (c : ¬ H k (rtP H w P0 k)) : rtP H w P0 (k + 1) = st (rtP H w P0 k) (w k) := by
  show @ite _ _ (Classical.propDecidable _) _ _ = _
  rw [if_neg c]
theorem rtH_h {H : Nat → Nat → Prop} {w : Nat → Nat} {P0 k : Nat} (c : H k (rtP H w P0 k)) : rtH H w P0 (k + 1) = rtH H w P0 k + 1 := by
  show @ite _ _ (Classical.propDecidable _) _ _ = _
  rw [if_pos c]
theorem rtH_s {H : Nat → Nat → Prop} {w : Nat → Nat} {P0 k : Nat} (c : ¬ H k (rtP H w P0 k)) : rtH H w P0 (k + 1) = rtH H w P0 k := by
  show @ite _ _ (Classical.propDecidable _) _ _ = _
  rw [if_neg c]
def rtA (p : Nat) (h : mH) (x : Int32) (P H B : Nat) : Int32 := if x = 0 then nI P else if x = 1 then nI H else if x = 2 then nI (wsm h B p) else nI B
theorem x_route {W : mW} {n p : Nat} {h : mH} {g : mG} (hX : XR W n p h g) {s L K : Nat} {f : Nat → Int32} (hs : s < 6) (hR : RW s L f g) (hK : SN L f K) (d : Nat) (one N P0 : Nat) (h1 : one < n) (hP0 : P0 < 25) (hp0 : h 56 one = nI P0) (hN : N ≤ 30) (x4 : Int32) {A : Nat} (hA : A = if K < N then K else N) {w : Nat → Nat} (hw : ∀ j, j < K → w j < 5 ∧ f j = nI (w j)) : Ok (ev none (d + 6) mm_X10_alongRoute 0 [.ref 19, .ref (43 + 2 * s), .int (nI N), .int (nI one), .int x4, .null, .null, .null, .null, .null] [] g) (fun r g2 => r = some (.int (rtA p h x4 (rtP (HH W p h one) w P0 A) (rtH (HH W p h one) w P0 A) (rtB (HH W p h one) (KB p h one) w P0 A))) ∧ Fr sA g g2) := by
  have hK0 := hK
  obtain ⟨k1, k2, k3, k4⟩ := hK
  have hn : n ≤ 6 := hX.1.1
  have hp : p ≤ 12 := hX.1.2.1
  have hAK : A ≤ K ∧ A ≤ N := by
    rw [hA]
    split <;> omega
  have eA : (if nI K < nI N then nI K else nI N) = nI A := by
    rw [hA]
    by_cases c : K < N
    · rw [if_pos c, if_pos (nI_lt c (by omega))]
    · rw [if_neg c, if_neg (nI_nlt (by omega) (by omega))]
  rw [b_X10_alongRoute_0 (isSh6 hs), x_steps hs hR hK0, mb_some, mp_some, b_X10_alongRoute_5 (isSh6 hs), eA, b_X10_alongRoute_8 (isSh6 hs)]
  refine ok_bnd (x_thinkOf hX d one A h1 (by omega)) ?_
  intro r g1 ⟨hr, F1, hT⟩
  subst hr
  have hX1 := XR_fr F1 hX
  have hR1 := RW_fr hs F1 hR
  rw [mp_none, b_X10_alongRoute_17 (isSh6 hs), hT.1, mi_nI (by omega) (by omega), pk_cl one (hx := rfl), (hX1.2.1.2.2.1 one (by omega)).1, hp0]
  have kp0 : ev none (d + 5) mm_X10_keptAt 0 [.ref 19, .int (nI P0), .int 0] [] g1 = some (some (.int (nI (KB p h one 0 P0))), g1) := x_keptAt hX1 hT.1 (d + 2) P0 0
  rw [kp0, mb_some, mp_some, b_X10_alongRoute_41 (isSh6 hs)]
  refine ok_loop (E := fun e (a : Nat × Nat × Nat) g => ev none (d + 6) mm_X10_alongRoute 46 [.ref 19, .ref (43 + 2 * s), .int (nI N), .int (nI one), .int x4, .int (nI A), .int (nI a.1), .int (nI a.2.1), .int (nI a.2.2), .int (nI e)] [] g) (I := fun e a g3 => a = (rtP (HH W p h one) w P0 e, rtH (HH W p h one) w P0 e, rtB (HH W p h one) (KB p h one) w P0 e) ∧ g3 = g1) (P := A) ?_ ?_ 0 (P0, 0, KB p h one 0 P0) g1 (by omega) ⟨rfl, rfl⟩
  · intro e a g3 he ⟨ha, hg⟩ next
    subst hg
    subst ha
    have hpl := rtP_lt (H := HH W p h one) (K := K) hP0 (fun j hj => (hw j hj).1) e (by omega)
    show Ok (ev none (d + 6) mm_X10_alongRoute 46 [.ref 19, .ref (43 + 2 * s), .int (nI N), .int (nI one), .int x4, .int (nI A), .int (nI (rtP (HH W p h one) w P0 e)), .int (nI (rtH (HH W p h one) w P0 e)), .int (nI (rtB (HH W p h one) (KB p h one) w P0 e)), .int (nI e)] [] g3) _
    rw [b_X10_alongRoute_46 (isSh6 hs), m_if_pos (nI_lt he (by omega)), x_isHeld hT (by omega) _ _ e hpl (by omega), mb_some, mp_some, b_X10_alongRoute_61 (isSh6 hs), mi_b2]
    have go : ∀ P' H', P' = rtP (HH W p h one) w P0 (e + 1) → H' = rtH (HH W p h one) w P0 (e + 1) → Ok (ev none (d + 6) mm_X10_alongRoute 83 [.ref 19, .ref (43 + 2 * s), .int (nI N), .int (nI one), .int x4, .int (nI A), .int (nI P'), .int (nI H'), .int (nI (rtB (HH W p h one) (KB p h one) w P0 e)), .int (nI e)] [] g3) (fun r g2 => r = some (.int (rtA p h x4 (rtP (HH W p h one) w P0 A) (rtH (HH W p h one) w P0 A) (rtB (HH W p h one) (KB p h one) w P0 A))) ∧ Fr sA g g2) := by
      intro P' H' e1 e2
      rw [b_X10_alongRoute_83 (isSh6 hs), nI_1, x_keptAt hX1 hT.1, mb_some, mp_some, b_X10_alongRoute_95 (isSh6 hs), t_or, nI_1]
      exact next (P', H', rtB (HH W p h one) (KB p h one) w P0 e ||| KB p h one (e + 1) P') g3 ⟨by rw [e1, e2]; rfl, rfl⟩
    refine ok_if (fun c => ?_) (fun c => ?_)
    · rw [nI_1]
      exact go _ _ (rtP_h c).symm (rtH_h c).symm
    · rw [x_num hs hR1 _ e (by omega), mb_some, mp_some, b_X10_alongRoute_78 (isSh6 hs), (hw e (by omega)).2, v_stepped _ _ _ hpl _ (hw e (by omega)).1, mb_some, mp_some, b_X10_alongRoute_81 (isSh6 hs)]
      exact go _ _ (rtP_s c).symm (rtH_s c).symm
  · intro a g3 ⟨ha, hg⟩
    subst hg
    subst ha
    have hb := rtB_lt (H := HH W p h one) (w := w) (P0 := P0) (KB_lt hX.1 one) A
    show Ok (ev none (d + 6) mm_X10_alongRoute 46 [.ref 19, .ref (43 + 2 * s), .int (nI N), .int (nI one), .int x4, .int (nI A), .int (nI (rtP (HH W p h one) w P0 A)), .int (nI (rtH (HH W p h one) w P0 A)), .int (nI (rtB (HH W p h one) (KB p h one) w P0 A)), .int (nI A)] [] g3) _
    rw [b_X10_alongRoute_46 (isSh6 hs), m_if_neg (nI_nlt (Nat.le_refl _) (by omega))]
    unfold rtA
    refine ok_if (fun c => ok_some ⟨by rw [if_pos c], F1⟩) (fun c => ?_)
    rw [if_neg c]
    refine ok_if (fun c => ok_some ⟨by rw [if_pos c], F1⟩) (fun c => ?_)
    rw [if_neg c]
    refine ok_if (fun c => ?_) (fun c => ok_some ⟨by rw [if_neg c], F1⟩)
    rw [if_pos c, x_weightOf hX1 _ _ (by omega), mb_some, mp_some, b_X10_alongRoute_147 (isSh6 hs)]
    exact ok_some ⟨rfl, F1⟩
theorem m_route {W : mW} {n p : Nat} {h : mH} {g : mG} (hM : MC W n p h g) {s L K : Nat} {f : Nat → Int32} (hs : s < 6) (hR : RW s L f g) (hK : SN L f K) (d : Nat) (one N P0 : Nat) (h1 : one < n) (hP0 : P0 < 25) (hp0 : h 56 one = nI P0) (hN : N ≤ 30) (x4 : Int32) {A : Nat} (hA : A = if K < N then K else N) {w : Nat → Nat} (hw : ∀ j, j < K → w j < 5 ∧ f j = nI (w j)) : Ok (ev none (d + 8) mm_X12_route 69 [.ref 55, .int (nI s), .int (nI N), .int (nI one), .int x4, .null, .null, .null] [.int (nI A)] g) (fun r g2 => r = some (.int (rtA p h x4 (rtP (HH W p h one) w P0 A) (rtH (HH W p h one) w P0 A) (rtB (HH W p h one) (KB p h one) w P0 A))) ∧ Fr sA g g2) := by
  have hK0 := hK
  obtain ⟨k1, k2, k3, k4⟩ := hK
  have hn : n ≤ 6 := hM.1.1
  have hp : p ≤ 12 := hM.1.2.1
  have hAK : A ≤ K ∧ A ≤ N := by
    rw [hA]
    split <;> omega
  have F0 : Fr sA g (m_s1 g 55 36 0) := fr_s1 fr_refl rfl
  have hM0 := MC_fr F0 hM
  rw [b_X12_route_69, mi_nI (by omega) (by omega), pk_cl one (hx := rfl), (hM.2.1.2.2.2.2 one).1, hp0, hM.2.1.2.2.2.1, m_keptAt hM0, mb_some, mp_some, b_X12_route_96]
  have ek0 : bts p (kpA h (nI one) (nI P0) (h 55 14)) = KB p h one 0 P0 := by
    unfold KB
    rw [dy_0 (V_day hM.1)]
  rw [ek0]
  refine ok_loop (E := fun e (a : Nat) g => ev none (d + 8) mm_X12_route 102 [.ref 55, .int (nI s), .int (nI N), .int (nI one), .int x4, .int (nI A), .int (nI a), .int (nI e)] [] g) (I := fun e a g3 => a = rtP (HH W p h one) w P0 e ∧ g3.1 55 36 = nI (rtH (HH W p h one) w P0 e) ∧ g3.1 55 37 = nI (rtB (HH W p h one) (KB p h one) w P0 e) ∧ Fr sA g g3) (P := A) ?_ ?_ 0 P0 (m_s1 (m_s1 g 55 36 0) 55 37 (nI (KB p h one 0 P0))) (by omega) ⟨rfl, rfl, rfl, fr_s1 F0 rfl⟩
  · intro e a g3 he ⟨ha, h36, h37, F3⟩ next
    subst ha
    have hM3 := MC_fr F3 hM
    have hpl := rtP_lt (H := HH W p h one) (K := K) hP0 (fun j hj => (hw j hj).1) e (by omega)
    show Ok (ev none (d + 8) mm_X12_route 102 [.ref 55, .int (nI s), .int (nI N), .int (nI one), .int x4, .int (nI A), .int (nI (rtP (HH W p h one) w P0 e)), .int (nI e)] [] g3) _
    rw [b_X12_route_102, m_if_pos (nI_lt he (by omega)), v_dayOn, mb_some, mp_some, b_X12_route_119, hM3.2.1.2.2.2.1]
    refine ok_bnd (m_isHeld hM3 _ _ _ _) ?_
    intro r g4 ⟨hr, F4⟩
    subst hr
    have F34 := fr_trans F3 (fr_1A F4)
    have hR4 := RW_fr hs F34 hR
    have q36 : g4.1 55 36 = nI (rtH (HH W p h one) w P0 e) := (F4.1 55 36 rfl).trans h36
    have q37 : g4.1 55 37 = nI (rtB (HH W p h one) (KB p h one) w P0 e) := (F4.1 55 37 rfl).trans h37
    have go : ∀ P' g5, Fr sA g g5 → P' = rtP (HH W p h one) w P0 (e + 1) → g5.1 55 36 = nI (rtH (HH W p h one) w P0 (e + 1)) → g5.1 55 37 = nI (rtB (HH W p h one) (KB p h one) w P0 e) → Ok (ev none (d + 8) mm_X12_route 152 [.ref 55, .int (nI s), .int (nI N), .int (nI one), .int x4, .int (nI A), .int (nI P'), .int (nI e)] [] g5) (fun r g2 => r = some (.int (rtA p h x4 (rtP (HH W p h one) w P0 A) (rtH (HH W p h one) w P0 A) (rtB (HH W p h one) (KB p h one) w P0 A))) ∧ Fr sA g g2) := by
      intro P' g5 F5 e1 e2 e3
      have hM5 := MC_fr F5 hM
      rw [b_X12_route_152, nI_1, v_dayOn, mb_some, mp_some, b_X12_route_169, hM5.2.1.2.2.2.1, m_keptAt hM5, mb_some, mp_some, b_X12_route_172, e3, t_or, nI_1]
      refine next P' _ ⟨e1, ?_, ?_, fr_s1 F5 rfl⟩
      · rw [s1_same (by omega), e2]
      · rw [s1_at, e1]; rfl
    rw [mp_some, b_X12_route_122, mi_b2]
    refine ok_if (fun c => ?_) (fun c => ?_)
    · refine go _ _ (fr_s1 F34 rfl) (rtP_h c).symm ?_ ?_
      · rw [s1_at, q36, nI_1, rtH_h c]
      · rw [s1_same (by omega), q37]
    · rw [m_at hs hR4 _ e (by omega), mb_some, mp_some, b_X12_route_147, (hw e (by omega)).2, v_steppedM _ _ _ hpl _ (hw e (by omega)).1, mb_some, mp_some, b_X12_route_150]
      refine go _ _ F34 (rtP_s c).symm ?_ q37
      rw [q36, rtH_s c]
  · intro a g3 ⟨ha, h36, h37, F3⟩
    subst ha
    have hM3 := MC_fr F3 hM
    have hb := rtB_lt (H := HH W p h one) (w := w) (P0 := P0) (KB_lt hM.1 one) A
    show Ok (ev none (d + 8) mm_X12_route 102 [.ref 55, .int (nI s), .int (nI N), .int (nI one), .int x4, .int (nI A), .int (nI (rtP (HH W p h one) w P0 A)), .int (nI A)] [] g3) _
    rw [b_X12_route_102, m_if_neg (nI_nlt (Nat.le_refl _) (by omega)), h36, h37]
    unfold rtA
    refine ok_if (fun c => ok_some ⟨by rw [if_pos c], F3⟩) (fun c => ?_)
    rw [if_neg c]
    refine ok_if (fun c => ok_some ⟨by rw [if_pos c], F3⟩) (fun c => ?_)
    rw [if_neg c]
    refine ok_if (fun c => ?_) (fun c => ok_some ⟨by rw [if_neg c], F3⟩)
    rw [if_pos c, m_weightsOf hM3 _ _ (by omega), mb_some, mp_some, b_X12_route_219]
    exact ok_some ⟨rfl, F3⟩
theorem inv_SC {g : mG} (hI : Inv g) : ∃ n p W nb, XR W n p g.1 g ∧ MC W n p g.1 g ∧ nb ≤ 50 ∧ I_S nb g := by
  obtain ⟨n, p, nb, W, hV, hR, hC, hP, hL, hG, hB, hS⟩ := hI
  obtain ⟨r, b1, b2⟩ := hB
  refine ⟨n, p, W, nb, ⟨hV, hR, ?_⟩, ⟨hV, ⟨rfl, rfl, rfl, rfl, fun k => ⟨rfl, rfl, rfl, rfl, rfl, rfl, rfl, rfl, rfl, rfl⟩⟩, ?_⟩, b1, hS⟩
  · rcases hL with ⟨l1, l2, l3⟩ | ⟨l1, l2, l3, l4⟩
    · exact Or.inl ⟨l1, l3⟩
    · exact Or.inr ⟨l1, l3⟩
  · rcases hL with ⟨l1, l2, l3⟩ | ⟨l1, l2, l3, l4⟩
    · exact Or.inl ⟨l2, l3⟩
    · exact Or.inr ⟨l2, l4⟩
theorem w_of {L K : Nat} {f : Nat → Int32} (hK : SN L f K) : ∃ w : Nat → Nat, ∀ j, j < K → w j < 5 ∧ f j = nI (w j) := by
  refine ⟨fun j => (f j).toNatClampNeg, fun j hj => ?_⟩
  have := ix_cl (hK.2.2.1 j hj) (by omega)
  exact ⟨this.1, this.2.symm⟩
theorem o_route : op_route Inv 1299 := by
  intro g hI a1 a2 a3 a4
  obtain ⟨n, p, W, nb, hX, hM, hnb, hS⟩ := inv_SC hI
  have hn : n ≤ 6 := hX.1.1
  have hp : p ≤ 12 := hX.1.2.1
  have e30 : (¬ a2 < 0 ∧ ¬ 30 < a2) ↔ ix 31 a2 := ix_le (n := 30) (by omega)
  have e3 : (¬ a4 < 0 ∧ ¬ 3 < a4) ↔ ix 4 a4 := ix_le (n := 3) (by omega)
  have hMh : ∀ g1 : mG, MC W n p g.1 g1 → ev none 1299 mm_X12_route 0 [.ref 55, .int a1, .int a2, .int a3, .int a4, .null, .null, .null] [] g1 = m_if (ix 6 a1) (m_if (ix 31 a2) (m_if (ix n a3) (m_if (ix 4 a4) (m_bnd (ev none 1298 mm_X12_rowFault 0 [.ref 55, .int a1] [] g1) (fun r g2 => ev none 1299 mm_X12_route 42 [.ref 55, .int a1, .int a2, .int a3, .int a4, .null, .null, .null] (m_psh r []) g2)) (some (some (.int (-1)), g1))) (some (some (.int (-1)), g1))) (some (some (.int (-1)), g1))) (some (some (.int (-1)), g1)) := by
    intro g1 hM1
    rw [b_X12_route_0, v_isShelfM, mb_some, mp_some, b_X12_route_4, mi_b2, v_in _ _ a2 30 31 (by omega) rfl, mb_some, mp_some, b_X12_route_14, mi_b2, v_isOne _ _ _ n (by omega) (MC_n hM1), mb_some, mp_some, b_X12_route_22, mi_b2, v_in _ _ a4 3 4 (by omega) rfl, mb_some, mp_some, b_X12_route_32, mi_b2]
  have hXh : ev none 1299 mm_X11_route 0 [.ref 0, .int a1, .int a2, .int a3, .int a4, .null] [] g = m_if (ix 6 a1) (m_if (ix 31 a2) (m_if (ix n a3) (m_if (ix 4 a4) (m_in a1 6 (m_sel [43, 45, 47, 49, 51, 53] (Int32.toNatClampNeg a1) (fun j => ev none 1299 mm_X11_route 47 [.ref 0, .int a1, .int a2, .int a3, .int a4, .null] [.ref j] g))) (some (some (.int (-1)), g))) (some (some (.int (-1)), g))) (some (some (.int (-1)), g))) (some (some (.int (-1)), g)) := by
    rw [b_X11_route_0, v_isShelf, mb_some, mp_some, b_X11_route_4, mi_b2, v_hasPerson _ g _ n (by omega) hX.2.1.1, mb_some, mp_some, b_X11_route_25, mi_b2, ← mi_c e30, ← mi_c e3]
    by_cases c0 : ix 6 a1
    · rw [m_if_pos c0, m_if_pos c0]
      by_cases c1 : a2 < 0
      · rw [m_if_pos c1, m_if_neg (fun q => q.1 c1)]
      · rw [m_if_neg c1]
        by_cases c2 : 30 < a2
        · rw [m_if_pos c2, m_if_neg (fun q => q.2 c2)]
        · rw [m_if_neg c2, m_if_pos (show ¬ a2 < 0 ∧ ¬ 30 < a2 from ⟨c1, c2⟩)]
          by_cases c3 : ix n a3
          · rw [m_if_pos c3, m_if_pos c3]
            by_cases c4 : a4 < 0
            · rw [m_if_pos c4, m_if_neg (fun q => q.1 c4)]
            · rw [m_if_neg c4]
              by_cases c5 : 3 < a4
              · rw [m_if_pos c5, m_if_neg (fun q => q.2 c5)]
              · rw [m_if_neg c5, m_if_pos (show ¬ a4 < 0 ∧ ¬ 3 < a4 from ⟨c4, c5⟩)]
          · rw [m_if_neg c3, m_if_neg c3]
    · rw [m_if_neg c0, m_if_neg c0]
  rw [hXh]
  by_cases h0 : ix 6 a1
  · by_cases h1 : ix 31 a2
    · by_cases h2 : ix n a3
      · by_cases h3 : ix 4 a4
        · obtain ⟨s, hs, e⟩ := h0
          subst e
          obtain ⟨N, hN, e⟩ := h1
          subst e
          obtain ⟨one, ho, e⟩ := h2
          subst e
          obtain ⟨P0, hP0, hp0⟩ := (hX.1.2.2.2.2.1 one ho).1
          rw [m_if_pos (ix_nI hs), m_if_pos (ix_nI hN), m_if_pos (ix_nI ho), m_if_pos h3, mi_nI hs (by omega), pk_cl s (hx := rfl), sel6 hs, b_X11_route_47 (isSh6 hs), v_refusal hs hnb _ _ hS, mb_some, mp_some, b_X11_route_50]
          rcases rf_0 hs hnb hS with c | ⟨c, L, f, hR⟩
          · rw [m_if_neg (rf_ne c), b_X11_route_79]
            refine op_bad _ hI rfl ?_
            rw [hMh g hM, m_if_pos (ix_nI hs), m_if_pos (ix_nI hN), m_if_pos (ix_nI ho), m_if_pos h3, v_rowFault hs, mb_some, mp_some, b_X12_route_42, m_if_pos c, v_rowFault hs, mb_some, mp_some, b_X12_route_50]
          · obtain ⟨K, hK⟩ := SN_ex L f
            obtain ⟨w, hw⟩ := w_of hK
            rw [c, m_if_pos rfl, mi_nI hs (by omega), pk_cl s (hx := rfl), sel6 hs, b_X11_route_72 (isSh6 hs)]
            refine op_th (rtA p g.1 a4 (rtP (HH W p g.1 one) w P0 (if K < N then K else N)) (rtH (HH W p g.1 one) w P0 (if K < N then K else N)) (rtB (HH W p g.1 one) (KB p g.1 one) w P0 (if K < N then K else N))) hI ?_ ?_
            · refine ok_bnd (x_route hX hs hR hK 1292 one N P0 ho hP0 hp0 (by omega) a4 rfl hw) ?_
              intro r g2 ⟨hr, F⟩
              subst hr
              rw [mp_some, b_X11_route_79]
              exact ok_some ⟨rfl, F⟩
            · intro g1 F1
              have hM1 := MC_fr F1 hM
              have hR1 := RW_fr hs F1 hR
              have c1 : rf (g1.1 90 s) = 0 := by rw [F1.1 90 s rfl]; exact c
              rw [hMh g1 hM1, m_if_pos (ix_nI hs), m_if_pos (ix_nI hN), m_if_pos (ix_nI ho), m_if_pos h3, v_rowFault hs, mb_some, mp_some, b_X12_route_42, m_if_neg (rf_nn c1), m_steps hs hR1 hK, mb_some, mp_some, b_X12_route_56]
              have fin := m_route hM1 hs hR1 hK 1291 one N P0 ho hP0 hp0 (by omega) a4 rfl hw
              by_cases c2 : K < N
              · rw [m_if_pos (nI_lt c2 (by omega)), m_steps hs hR1 hK, mb_some, mp_some, b_X12_route_65]
                rw [if_pos c2] at fin ⊢
                exact fin
              · have hK30 := hK.1
                rw [m_if_neg (nI_nlt (by omega) (by omega))]
                rw [if_neg c2] at fin ⊢
                exact fin
        · rw [m_if_pos h0, m_if_pos h1, m_if_pos h2, m_if_neg h3]
          exact op_bad (-1) hI rfl (by rw [hMh g hM, m_if_pos h0, m_if_pos h1, m_if_pos h2, m_if_neg h3])
      · rw [m_if_pos h0, m_if_pos h1, m_if_neg h2]
        exact op_bad (-1) hI rfl (by rw [hMh g hM, m_if_pos h0, m_if_pos h1, m_if_neg h2])
    · rw [m_if_pos h0, m_if_neg h1]
      exact op_bad (-1) hI rfl (by rw [hMh g hM, m_if_pos h0, m_if_neg h1])
  · rw [m_if_neg h0]
    exact op_bad (-1) hI rfl (by rw [hMh g hM, m_if_neg h0])
