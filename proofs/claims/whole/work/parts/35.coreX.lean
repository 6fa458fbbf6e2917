/-! WHO IS HELD (2): the class -/
theorem BT_0 {x : Int32} {f : Nat → Int32} (hb : BT x f) : ∃ F, F < 4096 ∧ x = nI F ∧ ∀ i, i < 12 → f i = b2 (F.testBit i = true) := hb
theorem x_isOn {n p : Nat} {h : mH} {g : mG} (hX : XT n p h g) (x day : Int32) (hb : BT x (h 65)) (d : Nat) (q : Nat) (hq : q < 12) : ev none (d + 1) mm_X9_isOn 0 [.ref 1, .int (nI q), .int x, .int day] [] g = some (some (.int (b2 (onP h day q))), g) := by
  obtain ⟨F, f1, f2, f3⟩ := hb
  have e := hX.2.2.2.2 q hq
  have q12 : ∀ x : Option (Option Value × mG), m_in (nI q) 12 x = x := fun x => mi_nI (by omega) (by omega)
  subst f2
  rw [b_X9_isOn_0, v_hasBit _ _ F q (by omega) (by omega), mb_some, mp_some, b_X9_isOn_5, mi_b2, q12, q12, pk_cl q (hx := rfl), e.2.2.2.2.1, e.2.2.2.2.2, mi_ft, mi_f2, mi_f2]
  refine congrArg (fun z => some (some (Value.int z), g)) (b2_c ?_)
  unfold onP
  rw [f3 q hq]
  exact ⟨fun x => ⟨b2_f x.1, x.2⟩, fun x => ⟨b2_0.mp x.1, x.2⟩⟩
theorem x_oth {W : mW} {n p : Nat} {h : mH} {day : Int32} {g : mG} (hX : XM W n p h day g) (d : Nat) (q : Nat) (hq : q < p) : ev none (d + 2) mm_X9_othersOn 0 [.ref 1, .int (nI q), .ref 15, .null, .null] [] g = some (some (.int (nI (oth p h day q))), g) := by
  obtain ⟨⟨v1, v2, v3, v4, v5⟩, hT, _, ⟨o1, o2, o3, o4⟩⟩ := hX
  have hP : g.1 1 13 = nI p := hT.2.1
  rw [b_X9_othersOn_0]
  refine ok_eq (ok_loop (E := fun e (a : Nat) g => ev none (d + 2) mm_X9_othersOn 5 [.ref 1, .int (nI q), .ref 15, .int (nI a), .int (nI e)] [] g) (I := fun e a g' => a = cnt e (othP h day q) ∧ g' = g) (P := p) ?_ ?_ 0 0 g (by omega) ⟨rfl, rfl⟩)
  · intro e a g' he ⟨ha, hg⟩ next
    subst hg
    have step : ∀ m, m = cnt (e + 1) (othP h day q) → Ok (ev none (d + 2) mm_X9_othersOn 72 [.ref 1, .int (nI q), .ref 15, .int (nI m), .int (nI e)] [] g') (fun r g2 => r = some (.int (nI (oth p h day q))) ∧ g2 = g') := by
      intro m hm
      rw [b_X9_othersOn_72, nI_1]
      exact next m g' ⟨hm, rfl⟩
    have e1 := hT.2.2.2.2 e (by omega)
    have e2 := hT.2.2.2.2 q (by omega)
    show Ok (ev none (d + 2) mm_X9_othersOn 5 [.ref 1, .int (nI q), .ref 15, .int (nI a), .int (nI e)] [] g') _
    rw [b_X9_othersOn_5, hP, m_if_pos (nI_lt he (by omega)), mi_nI (i := e) (by omega) (by omega), mi_nI (i := q) (by omega) (by omega), mi_nI (i := e) (by omega) (by omega), mi_nI (i := q) (by omega) (by omega), pk_cl e (hx := rfl), pk_cl q (hx := rfl), e1.1, e2.1, e1.2.2.1, e2.2.2.1, mi_c (nI_eq (by omega) (by omega)), o1]
    refine ok_if (fun c1 => ?_) (fun c1 => ?_)
    · exact step a (by rw [cnt_f (fun x => x.1 c1), ha])
    · refine ok_if (fun c2 => ?_) (fun c2 => ?_)
      · refine ok_if (fun c3 => ?_) (fun c3 => ?_)
        · rw [x_isOn hT _ _ o2 d e (by omega), mb_some, mp_some, b_X9_othersOn_66, mi_b2]
          refine ok_if (fun c4 => ?_) (fun c4 => ?_)
          · rw [nI_1]
            exact step (a + 1) (by rw [cnt_t ⟨c1, c2, c3, c4⟩, ha])
          · exact step a (by rw [cnt_f (fun x => c4 x.2.2.2), ha])
        · exact step a (by rw [cnt_f (fun x => c3 x.2.2.1), ha])
      · exact step a (by rw [cnt_f (fun x => c2 x.2.1), ha])
  · intro a g' ⟨ha, hg⟩
    subst hg
    show Ok (ev none (d + 2) mm_X9_othersOn 5 [.ref 1, .int (nI q), .ref 15, .int (nI a), .int (nI p)] [] g') _
    rw [b_X9_othersOn_5, hP, m_if_neg (nI_nlt (Nat.le_refl _) (by omega))]
    exact ok_some ⟨by rw [ha]; rfl, rfl⟩
theorem v_within (d : Nat) (g : mG) (x : Int32) : ev none (d + 1) mm_X9_within 0 [.int x] [] g = some (some (.int (cl x)), g) := by
  rw [b_X9_within_0, b_X9_within_7, b_X9_within_10, cl_w]
theorem lf_eq {a b : Nat} (ha : a < 1000) (hb : b < 1000) : (if 0 < (nI a - nI b) then (nI a - nI b) else (0 : Int32)) = if nI b < nI a then nI a - nI b else 0 := by
  have e := pk_sub_toInt (a := a) (b := b) (by omega) (by omega)
  by_cases h : b < a
  · have h1 : (0 : Int32) < nI a - nI b := by
      rw [Int32.lt_iff_toInt_lt, e]
      have e1 : (0 : Int32).toInt = 0 := by decide
      omega
    rw [if_pos h1, if_pos (nI_lt h (by omega))]
  · have h1 : ¬ (0 : Int32) < nI a - nI b := by
      rw [Int32.lt_iff_toInt_lt, e]
      have e1 : (0 : Int32).toInt = 0 := by decide
      omega
    rw [if_neg h1, if_neg (nI_nlt (by omega) (by omega))]
/-- how hard, of any number of others, any boots less, any forgetting -/
def hdG (W : mW) (h : mH) (day : Int32) (q : Nat) (bl o f : Int32) : Int32 := cl (W (h 61 q) (lf h day q) (h 57 (h 58 q).toNatClampNeg - bl) o f day)
theorem x_hardG {W : mW} {n p : Nat} {h : mH} {day : Int32} {g : mG} (hV : V n p h) (hT : XT n p h g) (hL : LX W g) (hday : g.1 15 0 = day) (hd1 : ix 100 day) (F : Nat) (hF : F < 4096) (hf : g.1 15 2 = nI F) (d : Nat) (q : Nat) (hq : q < p) (o : Int32) : Ok (ev none (d + 3) mm_X9_hardness 0 [.ref 1, .int (nI q), .int o, .ref 15, .null, .null] [] g) (fun r g2 => r = some (.int (hdG W h day q (g.1 15 3) o (b2 (F.testBit q = true)))) ∧ Fr s1 g g2) := by
  obtain ⟨v1, v2, v3, v4, v5, v6, v7, v8, v9⟩ := hV
  obtain ⟨f1, f2, f3, f4, f5, f6⟩ := hT.2.2.2.2 q (by omega)
  have hb : ix n (h 58 q) := (v6 q hq).1
  have q12 : ∀ x : Option (Option Value × mG), m_in (nI q) 12 x = x := fun x => mi_nI (by omega) (by omega)
  have elf : (if 0 < (h 63 q - day) then (h 63 q - day) else (0 : Int32)) = lf h day q := by
    obtain ⟨a, ha, ea⟩ := (v6 q hq).2.2.2.2.2
    obtain ⟨b, hb, eb⟩ := hd1
    unfold lf
    rw [ea, eb]
    exact lf_eq (by omega) (by omega)
  rw [b_X9_hardness_0, q12, pk_cl q (hx := rfl), f6, hday, elf, b_X9_hardness_15, hf, t_bit (by omega) (by omega)]
  rw [b_X3_isTold_0]
  rcases hL with ⟨l1, l2⟩ | ⟨l1, l2⟩
  · rw [l1, m_if_neg (by decide), mb_some, mp_some, b_X9_hardness_34, m_if_pos rfl, q12, pk_cl q (hx := rfl), f4]
    have k : ∀ s0 : Int32, Ok (ev none (d + 3) mm_X9_hardness 56 [.ref 1, .int (nI q), .int o, .ref 15, .int (lf h day q), .int (b2 (F.testBit q = true))] [.int s0, .int (h 61 q / 2)] g) (fun r g2 => r = some (.int (cl (h 61 q / 2 + s0 - 3 * b2 (F.testBit q = true)))) ∧ Fr s1 g g2) := by
      intro s0
      rw [b_X9_hardness_56, v_within, mb_some, mp_some, b_X9_hardness_65]
      exact ok_some ⟨rfl, fr_refl⟩
    unfold hdG
    rw [l2]
    unfold W0
    refine ok_if (fun c => ?_) (fun c => ?_)
    · rw [if_pos c]; exact k 1
    · rw [if_neg c]; exact k 0
  · have i0 : vp_in 0 6 := vp6 (k := 0) (by omega)
    have i1 : vp_in 1 6 := vp6 (k := 1) (by omega)
    have i2 : vp_in 2 6 := vp6 (k := 2) (by omega)
    have i3 : vp_in 3 6 := vp6 (k := 3) (by omega)
    have i4 : vp_in 4 6 := vp6 (k := 4) (by omega)
    have i5 : vp_in 5 6 := vp6 (k := 5) (by omega)
    have ib : vp_in (h 58 q) 6 := ix_in (ix_mono hb v1) (by omega)
    have eb : g.1 3 (Int32.toNatClampNeg (h 58 q)) = h 57 (h 58 q).toNatClampNeg := (hT.2.2.2.1 _ (ix_cl (ix_mono hb v1) (by omega)).1).2
    rw [m_if_pos l1, mb_some, mp_some, b_X9_hardness_34, m_if_neg (by decide), q12, mi_in i0, mi_in i1, q12, pk_cl q (hx := rfl), f1, mi_in ib, mi_in i2, mi_in i3, mi_in i4, mi_in i5, f4, hday, eb]
    generalize hg6 : m_s1 (m_s1 (m_s1 (m_s1 (m_s1 (m_s1 g 11 (Int32.toNatClampNeg 0) (h 61 q)) 11 (Int32.toNatClampNeg 1) (lf h day q)) 11 (Int32.toNatClampNeg 2) (h 57 (h 58 q).toNatClampNeg - g.1 15 3)) 11 (Int32.toNatClampNeg 3) o) 11 (Int32.toNatClampNeg 4) (b2 (F.testBit q = true))) 11 (Int32.toNatClampNeg 5) day = g6
    have F6 : Fr s1 g g6 := by
      rw [← hg6]
      exact fr_s1 (fr_s1 (fr_s1 (fr_s1 (fr_s1 (fr_s1 fr_refl rfl) rfl) rfl) rfl) rfl) rfl
    refine ok_bnd (l2 d g6 (F6.1 12 2 rfl) (fun k => F6.1 13 k rfl)) ?_
    intro r g7 ⟨hr, F7⟩
    subst hr
    rw [mp_some, b_X9_hardness_144, v_within, mb_some, mp_some, b_X9_hardness_147]
    refine ok_some ⟨?_, fr_trans F6 F7⟩
    have w0 : g6.1 11 0 = h 61 q := by rw [← hg6]; rfl
    have w1 : g6.1 11 1 = lf h day q := by rw [← hg6]; rfl
    have w2 : g6.1 11 2 = h 57 (h 58 q).toNatClampNeg - g.1 15 3 := by rw [← hg6]; rfl
    have w3 : g6.1 11 3 = o := by rw [← hg6]; rfl
    have w4 : g6.1 11 4 = b2 (F.testBit q = true) := by rw [← hg6]; rfl
    have w5 : g6.1 11 5 = day := by rw [← hg6]; rfl
    unfold wf hdG
    rw [w0, w1, w2, w3, w4, w5]
theorem x_hard {W : mW} {n p : Nat} {h : mH} {day : Int32} {g : mG} (hX : XM W n p h day g) (hd1 : ix 100 day) (d : Nat) (q : Nat) (hq : q < p) : Ok (ev none (d + 3) mm_X9_hardness 0 [.ref 1, .int (nI q), .int (nI (oth p h day q)), .ref 15, .null, .null] [] g) (fun r g2 => r = some (.int (hd W p h day q)) ∧ Fr s1 g g2) := by
  obtain ⟨hV, hT, hL, ⟨o1, o2, ⟨F, f1, f2, f3⟩, o4⟩⟩ := hX
  refine ok_mono (x_hardG hV hT hL o1 hd1 F f1 f2 d q hq _) ?_
  intro r g2 ⟨hr, F2⟩
  refine ⟨?_, F2⟩
  rw [hr, o4, ← f3 q (by have := hV.2.1; omega)]
  unfold hdG hd
  rw [Int32.sub_zero]
theorem x_gripsAt {W : mW} {n p : Nat} {h : mH} {day : Int32} {g : mG} (hX : XM W n p h day g) (hd1 : ix 100 day) (d : Nat) (one pl : Int32) : Ok (ev none (d + 4) mm_X9_gripsAt 0 [.ref 1, .int one, .int pl, .ref 15, .null, .null] [] g) (fun r g2 => r = some (.int (nI (bts p (grA W p h one pl day)))) ∧ Fr s1 g g2) := by
  have hp : p ≤ 12 := hX.1.2.1
  rw [b_X9_gripsAt_0]
  refine ok_loop (E := fun e (a : Nat) g => ev none (d + 4) mm_X9_gripsAt 6 [.ref 1, .int one, .int pl, .ref 15, .int (nI a), .int (nI e)] [] g) (I := fun e a g' => a = bts e (grA W p h one pl day) ∧ Fr s1 g g') (P := p) ?_ ?_ 0 0 g (by omega) ⟨rfl, fr_refl⟩
  · intro e a g' he ⟨ha, hg⟩ next
    have hX1 := XM_fr hg hX
    obtain ⟨hV, hT, hL, ⟨o1, o2, o3, o4⟩⟩ := hX1
    have step : ∀ m g2, Fr s1 g g2 → m = bts (e + 1) (grA W p h one pl day) → Ok (ev none (d + 4) mm_X9_gripsAt 84 [.ref 1, .int one, .int pl, .ref 15, .int (nI m), .int (nI e)] [] g2) (fun r g2 => r = some (.int (nI (bts p (grA W p h one pl day)))) ∧ Fr s1 g g2) := by
      intro m g2 hg2 hm
      rw [b_X9_gripsAt_84, nI_1]
      exact next m g2 ⟨hm, hg2⟩
    show Ok (ev none (d + 4) mm_X9_gripsAt 6 [.ref 1, .int one, .int pl, .ref 15, .int (nI a), .int (nI e)] [] g') _
    rw [b_X9_gripsAt_6, hT.2.1, m_if_pos (nI_lt he (by omega)), mi_nI (i := e) (by omega) (by omega), mi_nI (i := e) (by omega) (by omega), pk_cl e (hx := rfl), (hT.2.2.2.2 e (by omega)).1, (hT.2.2.2.2 e (by omega)).2.2.1, o1]
    refine ok_if (fun c => ?_) (fun c => ?_)
    · refine ok_if (fun c1 => ?_) (fun c1 => ?_)
      · rw [x_isOn hT _ _ o2 _ e (by omega), mb_some, mp_some, b_X9_gripsAt_51, mi_b2]
        refine ok_if (fun c2 => ?_) (fun c2 => ?_)
        · rw [x_oth (XM_fr hg hX) _ e he, mb_some, mp_some, b_X9_gripsAt_64]
          refine ok_bnd (x_hard (XM_fr hg hX) hd1 d e he) ?_
          intro r g2 ⟨hr, F⟩
          subst hr
          rw [mp_some, b_X9_gripsAt_68, F.1 1 16 rfl, hT.2.2.1]
          refine ok_if (fun c3 => ?_) (fun c3 => ?_)
          · exact step _ _ (fr_trans hg F) (by rw [bts_f (fun x => x.2.2.2 c3), ha])
          · rw [t_or1 (by omega)]
            exact step _ _ (fr_trans hg F) (by rw [bts_t ⟨c, c1, c2, c3⟩, ha])
        · exact step _ _ hg (by rw [bts_f (fun x => c2 x.2.2.1), ha])
      · exact step _ _ hg (by rw [bts_f (fun x => c1 x.2.1), ha])
    · exact step _ _ hg (by rw [bts_f (fun x => c x.1), ha])
  · intro a g' ⟨ha, hg⟩
    obtain ⟨hV, hT, hL, ⟨o1, o2, o3, o4⟩⟩ := XM_fr hg hX
    show Ok (ev none (d + 4) mm_X9_gripsAt 6 [.ref 1, .int one, .int pl, .ref 15, .int (nI a), .int (nI p)] [] g') _
    rw [b_X9_gripsAt_6, hT.2.1, m_if_neg (nI_nlt (Nat.le_refl _) (by omega))]
    exact ok_some ⟨by rw [ha], hg⟩
/-- the places that hold one -/
noncomputable def gpl (W : mW) (p : Nat) (h : mH) (one day : Int32) : Nat := bts 25 (fun pl => hld W p h one (nI pl) day)
noncomputable def gplU (W : mW) (p e : Nat) (h : mH) (one day : Int32) : Nat := bts 25 (fun pl => ∃ q, q < e ∧ grA W p h one (nI pl) day q)
theorem gplU_f {W : mW} {p e : Nat} {h : mH} {one day : Int32} (hc : ∀ pl, grA W p h one (nI pl) day e → ∃ q, q < e ∧ grA W p h one (nI pl) day q) : gplU W p (e + 1) h one day = gplU W p e h one day := by
  refine bts_c (fun i hi => ?_)
  constructor
  · intro ⟨q, hq, hg⟩
    by_cases eq : q = e
    · subst eq; exact hc i hg
    · exact ⟨q, by omega, hg⟩
  · intro ⟨q, hq, hg⟩
    exact ⟨q, by omega, hg⟩
theorem gplU_t {W : mW} {p e : Nat} {h : mH} {one day : Int32} {pl : Nat} (hpl : pl < 25) (hc : grA W p h one (nI pl) day e) : gplU W p (e + 1) h one day = gplU W p e h one day ||| 2 ^ pl := by
  refine nat_ext (fun i => ?_)
  unfold gplU
  rw [Nat.testBit_or, Bool.or_eq_true, bts_bit, bts_bit, t_tb2, decide_eq_true_iff]
  constructor
  · intro ⟨hi, q, hq, hg⟩
    by_cases eq : q = e
    · subst eq
      refine Or.inr ?_
      have e1 := hc.2.1
      have e2 := hg.2.1
      rw [e1] at e2
      exact (nI_eq (by omega) (by omega)).mp e2
    · exact Or.inl ⟨hi, q, by omega, hg⟩
  · rintro (⟨hi, q, hq, hg⟩ | hi)
    · exact ⟨hi, q, by omega, hg⟩
    · subst hi
      exact ⟨hpl, e, by omega, hc⟩
theorem x_gripPlaces {W : mW} {n p : Nat} {h : mH} {day : Int32} {g : mG} (hX : XM W n p h day g) (hd1 : ix 100 day) (d : Nat) (one : Int32) : Ok (ev none (d + 4) mm_X9_gripPlaces 0 [.ref 1, .int one, .ref 15, .null, .null] [] g) (fun r g2 => r = some (.int (nI (gpl W p h one day))) ∧ Fr s1 g g2) := by
  have hp : p ≤ 12 := hX.1.2.1
  have u0 : gplU W p 0 h one day = 0 := bts_0.mpr (fun i hi => fun ⟨q, hq, _⟩ => by omega)
  rw [b_X9_gripPlaces_0]
  refine ok_loop (E := fun e (a : Nat) g => ev none (d + 4) mm_X9_gripPlaces 5 [.ref 1, .int one, .ref 15, .int (nI a), .int (nI e)] [] g) (I := fun e a g' => a = gplU W p e h one day ∧ Fr s1 g g') (P := p) ?_ ?_ 0 0 g (by omega) ⟨u0.symm, fr_refl⟩
  · intro e a g' he ⟨ha, hg⟩ next
    have hX1 := XM_fr hg hX
    obtain ⟨hV, hT, hL, ⟨o1, o2, o3, o4⟩⟩ := hX1
    have step : ∀ m g2, Fr s1 g g2 → m = gplU W p (e + 1) h one day → Ok (ev none (d + 4) mm_X9_gripPlaces 89 [.ref 1, .int one, .ref 15, .int (nI m), .int (nI e)] [] g2) (fun r g2 => r = some (.int (nI (gpl W p h one day))) ∧ Fr s1 g g2) := by
      intro m g2 hg2 hm
      rw [b_X9_gripPlaces_89, nI_1]
      exact next m g2 ⟨hm, hg2⟩
    obtain ⟨pl, hpl, epl⟩ := (hV.2.2.2.2.2.1 e he).2.2.1
    have hlt : gplU W p e h one day < 2 ^ 25 := bts_lt
    show Ok (ev none (d + 4) mm_X9_gripPlaces 5 [.ref 1, .int one, .ref 15, .int (nI a), .int (nI e)] [] g') _
    rw [b_X9_gripPlaces_5, hT.2.1, m_if_pos (nI_lt he (by omega)), mi_nI (i := e) (by omega) (by omega), mi_nI (i := e) (by omega) (by omega), pk_cl e (hx := rfl), (hT.2.2.2.2 e (by omega)).1, (hT.2.2.2.2 e (by omega)).2.2.1, epl]
    refine ok_if (fun c => ?_) (fun c => ?_)
    · rw [v_hasBit _ _ a pl (by omega) (by omega), mb_some, mp_some, b_X9_gripPlaces_36, mi_b2]
      refine ok_if (fun c1 => ?_) (fun c1 => ?_)
      · refine step _ _ hg ?_
        rw [ha, gplU_f]
        intro i hi
        rw [ha] at c1
        have e1 := hi.2.1
        have := (bts_bit pl).mp c1
        rw [epl] at e1
        rw [← e1]
        exact this.2
      · rw [o1, x_isOn hT _ _ o2 _ e (by omega), mb_some, mp_some, b_X9_gripPlaces_53, mi_b2]
        refine ok_if (fun c2 => ?_) (fun c2 => ?_)
        · rw [x_oth (XM_fr hg hX) _ e he, mb_some, mp_some, b_X9_gripPlaces_66]
          refine ok_bnd (x_hard (XM_fr hg hX) hd1 d e he) ?_
          intro r g2 ⟨hr, F⟩
          subst hr
          rw [mp_some, b_X9_gripPlaces_70, F.1 1 16 rfl, hT.2.2.1]
          refine ok_if (fun c3 => ?_) (fun c3 => ?_)
          · refine step _ _ (fr_trans hg F) ?_
            rw [ha, gplU_f (fun i hi => absurd c3 hi.2.2.2)]
          · rw [mi_nI (i := e) (by omega) (by omega), pk_cl e (hx := rfl), F.1 6 e rfl, (hT.2.2.2.2 e (by omega)).2.2.1, epl, t_or1 (by omega)]
            refine step _ _ (fr_trans hg F) ?_
            rw [ha, gplU_t hpl ⟨c, epl, c2, c3⟩]
        · exact step _ _ hg (by rw [ha, gplU_f (fun i hi => absurd hi.2.2.1 c2)])
    · exact step _ _ hg (by rw [ha, gplU_f (fun i hi => absurd hi.1 c)])
  · intro a g' ⟨ha, hg⟩
    obtain ⟨hV, hT, hL, ⟨o1, o2, o3, o4⟩⟩ := XM_fr hg hX
    show Ok (ev none (d + 4) mm_X9_gripPlaces 5 [.ref 1, .int one, .ref 15, .int (nI a), .int (nI p)] [] g') _
    rw [b_X9_gripPlaces_5, hT.2.1, m_if_neg (nI_nlt (Nat.le_refl _) (by omega))]
    exact ok_some ⟨by rw [ha]; rfl, hg⟩
theorem x_now {W : mW} {n p : Nat} {h : mH} {g : mG} (hX : XR W n p h g) (d : Nat) : ∃ g', ev none d mm_X9_now 0 [.ref 1] [] g = some (some (.ref 15), g') ∧ Fr s2 g g' ∧ XM W n p h (h 55 14) g' ∧ XR W n p h g' := by
  obtain ⟨hV, hR, hL⟩ := hX
  obtain ⟨r1, r2, r3, r4, r5, r6, r7, r8⟩ := hR
  refine ⟨_, b_X9_now_0 d g, ?_, ?_⟩
  · exact fr_s1 (fr_s1 (fr_s1 (fr_s1 fr_refl rfl) rfl) rfl) rfl
  · have F : Fr s2 g (m_s1 (m_s1 (m_s1 (m_s1 g 15 0 (g.1 1 17)) 15 1 (g.1 1 15)) 15 2 (g.1 1 14)) 15 3 0) := fr_s1 (fr_s1 (fr_s1 (fr_s1 fr_refl rfl) rfl) rfl) rfl
    refine ⟨⟨hV, XT_fr (fr_2A F) (RX_XT ⟨r1, r2, r3, r4, r5, r6, r7, r8⟩), LX_fr (fr_2A F) hL, ⟨r8, r6, r5, rfl⟩⟩, XR_fr (fr_2A F) ⟨hV, ⟨r1, r2, r3, r4, r5, r6, r7, r8⟩, hL⟩⟩
theorem x_gripsNow {W : mW} {n p : Nat} {h : mH} {g : mG} (hX : XR W n p h g) (d : Nat) (one : Nat) (h1 : one < n) : Ok (ev none (d + 5) mm_X9_gripsNow 0 [.ref 1, .int (nI one)] [] g) (fun r g2 => r = some (.int (nI (bts p (grA W p h (nI one) (h 56 one) (h 55 14))))) ∧ Fr s2 g g2) := by
  have hn : n ≤ 6 := hX.1.1
  obtain ⟨g', e1, F1, hM, hR⟩ := x_now hX (d + 4)
  rw [b_X9_gripsNow_0, mi_nI (by omega) (by omega), pk_cl one (hx := rfl), e1, mb_some, mp_some, b_X9_gripsNow_12, (hX.2.1.2.2.1 one (by omega)).1]
  refine ok_bnd (x_gripsAt hM hX.1.2.2.2.2.2.2.2.2.2 d (nI one) (h 56 one)) ?_
  intro r g2 ⟨hr, F⟩
  subst hr
  rw [mp_some, b_X9_gripsNow_15]
  exact ok_some ⟨rfl, fr_trans F1 (fr_12 F)⟩
theorem x_onAt {W : mW} {n p : Nat} {h : mH} {g : mG} (hX : XR W n p h g) (d : Nat) (one pl day : Int32) : ev none (d + 2) mm_X9_onAt 0 [.ref 1, .int one, .int pl, .int day, .null, .null] [] g = some (some (.int (nI (bts p (kpA h one pl day)))), g) := by
  have hp : p ≤ 12 := hX.1.2.1
  obtain ⟨hV, hR, hL⟩ := hX
  have hT := RX_XT hR
  obtain ⟨r1, r2, r3, r4, r5, r6, r7, r8⟩ := hR
  rw [b_X9_onAt_0]
  refine ok_eq (ok_loop (E := fun e (a : Nat) g => ev none (d + 2) mm_X9_onAt 6 [.ref 1, .int one, .int pl, .int day, .int (nI a), .int (nI e)] [] g) (I := fun e a g' => a = bts e (kpA h one pl day) ∧ g' = g) (P := p) ?_ ?_ 0 0 g (by omega) ⟨rfl, rfl⟩)
  · intro e a g' he ⟨ha, hg⟩ next
    subst hg
    have step : ∀ m, m = bts (e + 1) (kpA h one pl day) → Ok (ev none (d + 2) mm_X9_onAt 60 [.ref 1, .int one, .int pl, .int day, .int (nI m), .int (nI e)] [] g') (fun r g2 => r = some (.int (nI (bts p (kpA h one pl day)))) ∧ g2 = g') := by
      intro m hm
      rw [b_X9_onAt_60, nI_1]
      exact next m g' ⟨hm, rfl⟩
    show Ok (ev none (d + 2) mm_X9_onAt 6 [.ref 1, .int one, .int pl, .int day, .int (nI a), .int (nI e)] [] g') _
    rw [b_X9_onAt_6, r2, m_if_pos (nI_lt he (by omega)), mi_nI (i := e) (by omega) (by omega), mi_nI (i := e) (by omega) (by omega), pk_cl e (hx := rfl), (r4 e (by omega)).1, (r4 e (by omega)).2.2.1]
    refine ok_if (fun c => ?_) (fun c => ?_)
    · refine ok_if (fun c1 => ?_) (fun c1 => ?_)
      · rw [x_isOn hT _ _ r6 _ e (by omega), mb_some, mp_some, b_X9_onAt_48, mi_b2]
        refine ok_if (fun c2 => ?_) (fun c2 => ?_)
        · rw [t_or1 (by omega)]
          exact step _ (by rw [bts_t ⟨c, c1, c2⟩, ha])
        · exact step _ (by rw [bts_f (fun x => c2 x.2.2), ha])
      · exact step _ (by rw [bts_f (fun x => c1 x.2.1), ha])
    · exact step _ (by rw [bts_f (fun x => c x.1), ha])
  · intro a g' ⟨ha, hg⟩
    subst hg
    show Ok (ev none (d + 2) mm_X9_onAt 6 [.ref 1, .int one, .int pl, .int day, .int (nI a), .int (nI p)] [] g') _
    rw [b_X9_onAt_6, r2, m_if_neg (nI_nlt (Nat.le_refl _) (by omega))]
    exact ok_some ⟨by rw [ha], rfl⟩
theorem x_weightOf {W : mW} {n p : Nat} {h : mH} {g : mG} (hX : XR W n p h g) (d : Nat) (B : Nat) (hB : B < 2 ^ 31) : ev none (d + 1) mm_X9_weightOf 0 [.ref 1, .int (nI B), .null, .null] [] g = some (some (.int (nI (wsm h B p))), g) := by
  have hp : p ≤ 12 := hX.1.2.1
  obtain ⟨⟨v1, v2, v3, v4, v5, v6, v7⟩, ⟨r1, r2, r3, r4, r5⟩, hL⟩ := hX
  rw [b_X9_weightOf_0]
  refine ok_eq (ok_loop (E := fun e (a : Nat) g => ev none (d + 1) mm_X9_weightOf 4 [.ref 1, .int (nI B), .int (nI a), .int (nI e)] [] g) (I := fun e a g' => a = wsm h B e ∧ g' = g) (P := p) ?_ ?_ 0 0 g (by omega) ⟨rfl, rfl⟩)
  · intro e a g' he ⟨ha, hg⟩ next
    subst hg
    show Ok (ev none (d + 1) mm_X9_weightOf 4 [.ref 1, .int (nI B), .int (nI a), .int (nI e)] [] g') _
    rw [b_X9_weightOf_4, r2, m_if_pos (nI_lt he (by omega)), v_hasBit _ _ B e hB (by omega), mb_some, mp_some, b_X9_weightOf_17, mi_b2]
    refine ok_if (fun c => ?_) (fun c => ?_)
    · rw [mi_nI (i := e) (by omega) (by omega), pk_cl e (hx := rfl), (r4 e (by omega)).2.2.2.1, ← (ix_cl (v6 e he).2.2.2.1 (by omega)).2, nI_add, b_X9_weightOf_29, nI_1]
      exact next _ g' ⟨by rw [ha]; show _ = wsm h B e + _; rw [if_pos c], rfl⟩
    · rw [b_X9_weightOf_29, nI_1]
      exact next _ g' ⟨by rw [ha]; show _ = wsm h B e + _; rw [if_neg c]; rfl, rfl⟩
  · intro a g' ⟨ha, hg⟩
    subst hg
    show Ok (ev none (d + 1) mm_X9_weightOf 4 [.ref 1, .int (nI B), .int (nI a), .int (nI p)] [] g') _
    rw [b_X9_weightOf_4, r2, m_if_neg (nI_nlt (Nat.le_refl _) (by omega))]
    exact ok_some ⟨by rw [ha], rfl⟩
