/-! WHO IS HELD (1): what a picture of the town says -/
abbrev mH := Nat → Nat → Int32
/-- a promise is on, on a day -/
def onP (h : mH) (day : Int32) (e : Nat) : Prop := h 65 e = 0 ∧ ¬ day < h 62 e ∧ ¬ h 63 e < day
def othP (h : mH) (day : Int32) (q e : Nat) : Prop := e ≠ q ∧ h 58 e = h 58 q ∧ h 60 e = h 60 q ∧ onP h day e
noncomputable def oth (p : Nat) (h : mH) (day : Int32) (q : Nat) : Nat := cnt p (othP h day q)
def lf (h : mH) (day : Int32) (q : Nat) : Int32 := if day < h 63 q then h 63 q - day else 0
def cl (x : Int32) : Int32 := if x < 0 then 0 else if 9 < x then 9 else x
noncomputable def hd (W : mW) (p : Nat) (h : mH) (day : Int32) (q : Nat) : Int32 := cl (W (h 61 q) (lf h day q) (h 57 (h 58 q).toNatClampNeg) (nI (oth p h day q)) (h 64 q) day)
/-- a promise holds, on a day -/
def grp (W : mW) (p : Nat) (h : mH) (day : Int32) (q : Nat) : Prop := onP h day q ∧ ¬ hd W p h day q < h 55 13
def grA (W : mW) (p : Nat) (h : mH) (one pl day : Int32) (q : Nat) : Prop := h 58 q = one ∧ h 60 q = pl ∧ grp W p h day q
/-- one is held at a place -/
def hld (W : mW) (p : Nat) (h : mH) (one pl day : Int32) : Prop := ∃ q, q < p ∧ grA W p h one pl day q
/-- promises of one that are on at a place -/
def kpA (h : mH) (one pl day : Int32) (q : Nat) : Prop := h 58 q = one ∧ h 60 q = pl ∧ onP h day q
/-- the model's cells are the picture -/
def MT (h : mH) (g : mG) : Prop := g.1 55 1 = h 55 1 ∧ g.1 55 4 = h 55 4 ∧ g.1 55 13 = h 55 13 ∧ g.1 55 14 = h 55 14 ∧ ∀ k, g.1 56 k = h 56 k ∧ g.1 57 k = h 57 k ∧ g.1 58 k = h 58 k ∧ g.1 59 k = h 59 k ∧ g.1 60 k = h 60 k ∧ g.1 61 k = h 61 k ∧ g.1 62 k = h 62 k ∧ g.1 63 k = h 63 k ∧ g.1 64 k = h 64 k ∧ g.1 65 k = h 65 k
def LM (W : mW) (g : mG) : Prop := (g.1 55 35 = 0 ∧ W = W0) ∨ (g.1 55 35 = 1 ∧ ML W g)
def MC (W : mW) (n p : Nat) (h : mH) (g : mG) : Prop := V n p h ∧ MT h g ∧ LM W g
/-- the class's rows are the picture -/
def XT (n p : Nat) (h : mH) (g : mG) : Prop := g.1 1 12 = nI n ∧ g.1 1 13 = nI p ∧ g.1 1 16 = h 55 13 ∧ (∀ i, i < 6 → g.1 2 i = h 56 i ∧ g.1 3 i = h 57 i) ∧ ∀ i, i < 12 → g.1 4 i = h 58 i ∧ g.1 5 i = h 59 i ∧ g.1 6 i = h 60 i ∧ g.1 7 i = h 61 i ∧ g.1 8 i = h 62 i ∧ g.1 9 i = h 63 i
/-- the moment is the picture's, on a day -/
def MO (h : mH) (day : Int32) (g : mG) : Prop := g.1 15 0 = day ∧ BT (g.1 15 1) (h 65) ∧ BT (g.1 15 2) (h 64) ∧ g.1 15 3 = 0
def LX (W : mW) (g : mG) : Prop := (g.1 12 2 = 0 ∧ W = W0) ∨ (0 < g.1 12 2 ∧ XL W g)
/-- the class, its town the picture, thinks of a moment of it -/
def XM (W : mW) (n p : Nat) (h : mH) (day : Int32) (g : mG) : Prop := V n p h ∧ XT n p h g ∧ LX W g ∧ MO h day g
/-- the class's town is the picture -/
def XR (W : mW) (n p : Nat) (h : mH) (g : mG) : Prop := V n p h ∧ RX n p h g ∧ LX W g
theorem LM_fr {W : mW} {g g' : mG} (F : Fr sA g g') (h3 : LM W g) : LM W g' := by
  have e := F.1
  unfold LM
  rw [e 55 35 rfl]
  rcases h3 with h3 | ⟨h3, h4⟩
  · exact Or.inl h3
  · have k : ∀ {c k}, sAS c k = false → sA c k = false := fun q => by
      unfold sAS at q
      exact (Bool.or_eq_false_iff.mp q).1
    exact Or.inr ⟨h3, ML_fr (fun j hj => ⟨e 72 j (k (sAS72 hj).1), e 73 j (k (sAS72 hj).2)⟩) (e 74 0 rfl) (fun j hj => ⟨e 75 j (k (sAS75 hj).1), e 76 j (k (sAS75 hj).2)⟩) h4⟩
theorem MC_fr {W : mW} {n p : Nat} {h : mH} {g g' : mG} (F : Fr sA g g') (hM : MC W n p h g) : MC W n p h g' := by
  obtain ⟨h1, h2, h3⟩ := hM
  have e := F.1
  refine ⟨h1, ?_, LM_fr F h3⟩
  unfold MT
  simp only [e 55 1 rfl, e 55 4 rfl, e 55 13 rfl, e 55 14 rfl, e 56 _ rfl, e 57 _ rfl, e 58 _ rfl, e 59 _ rfl, e 60 _ rfl, e 61 _ rfl, e 62 _ rfl, e 63 _ rfl, e 64 _ rfl, e 65 _ rfl]
  exact h2
theorem XT_fr {n p : Nat} {h : mH} {g g' : mG} (F : Fr sA g g') (h2 : XT n p h g) : XT n p h g' := by
  have e := F.1
  unfold XT
  simp only [e 1 12 rfl, e 1 13 rfl, e 1 16 rfl, e 2 _ rfl, e 3 _ rfl, e 4 _ rfl, e 5 _ rfl, e 6 _ rfl, e 7 _ rfl, e 8 _ rfl, e 9 _ rfl]
  exact h2
theorem LX_fr {W : mW} {g g' : mG} (F : Fr sA g g') (h3 : LX W g) : LX W g' := by
  have e := F.1
  unfold LX
  rw [e 12 2 rfl]
  rcases h3 with h3 | ⟨h3, h4⟩
  · exact Or.inl h3
  · exact Or.inr ⟨h3, XL_fr (e 12 2 rfl) (fun k => e 13 k rfl) h4⟩
theorem MO_fr {h : mH} {day : Int32} {g g' : mG} (F : Fr s1 g g') (hM : MO h day g) : MO h day g' := by
  have e := F.1
  unfold MO
  rw [e 15 0 rfl, e 15 1 rfl, e 15 2 rfl, e 15 3 rfl]
  exact hM
theorem XM_fr {W : mW} {n p : Nat} {h : mH} {day : Int32} {g g' : mG} (F : Fr s1 g g') (hX : XM W n p h day g) : XM W n p h day g' := by
  obtain ⟨h1, h2, h3, h4⟩ := hX
  exact ⟨h1, XT_fr (fr_1A F) h2, LX_fr (fr_1A F) h3, MO_fr F h4⟩
theorem XR_fr {W : mW} {n p : Nat} {h : mH} {g g' : mG} (F : Fr sA g g') (hX : XR W n p h g) : XR W n p h g' := by
  obtain ⟨h1, h2, h3⟩ := hX
  exact ⟨h1, RX_fr1 (fr_AS F) h2, LX_fr F h3⟩
theorem RX_XT {n p : Nat} {h : mH} {g : mG} (hR : RX n p h g) : XT n p h g := by
  obtain ⟨r1, r2, r3, r4, r5, r6, r7, r8⟩ := hR
  exact ⟨r1, r2, r7, fun i hi => ⟨(r3 i hi).1, (r3 i hi).2.1⟩, r4⟩
theorem inv_C {g : mG} (hI : Inv g) : ∃ n p W, XR W n p g.1 g ∧ MC W n p g.1 g := by
  obtain ⟨n, p, nb, W, hV, hR, hC, hP, hL, hG, hB, hS⟩ := hI
  refine ⟨n, p, W, ⟨hV, hR, ?_⟩, ⟨hV, ⟨rfl, rfl, rfl, rfl, fun k => ⟨rfl, rfl, rfl, rfl, rfl, rfl, rfl, rfl, rfl, rfl⟩⟩, ?_⟩⟩
  · rcases hL with ⟨l1, l2, l3⟩ | ⟨l1, l2, l3, l4⟩
    · exact Or.inl ⟨l1, l3⟩
    · exact Or.inr ⟨l1, l3⟩
  · rcases hL with ⟨l1, l2, l3⟩ | ⟨l1, l2, l3, l4⟩
    · exact Or.inl ⟨l2, l3⟩
    · exact Or.inr ⟨l2, l4⟩
theorem vp6 {k : Nat} (h : k < 6) : vp_in (nI k) 6 := vp_in_nI h (by omega)
theorem cl_w (x : Int32) : (if 0 < (if x < 9 then x else 9) then (if x < 9 then x else 9) else (0 : Int32)) = cl x := by
  unfold cl
  by_cases h1 : x < 0
  · have h2 : x < 9 := by
      rw [Int32.lt_iff_toInt_lt] at h1 ⊢
      have e1 : (0 : Int32).toInt = 0 := by decide
      have e2 : (9 : Int32).toInt = 9 := by decide
      omega
    have h3 : ¬ 0 < x := by
      rw [Int32.lt_iff_toInt_lt] at h1 ⊢
      omega
    rw [if_pos h2, if_neg h3, if_pos h1]
  · rw [if_neg h1]
    by_cases h2 : 9 < x
    · have h3 : ¬ x < 9 := by
        rw [Int32.lt_iff_toInt_lt] at h2 ⊢
        omega
      rw [if_pos h2, if_neg h3, if_pos (by decide)]
    · rw [if_neg h2]
      by_cases h3 : x < 9
      · rw [if_pos h3]
        by_cases h4 : 0 < x
        · rw [if_pos h4]
        · rw [if_neg h4]
          rw [Int32.lt_iff_toInt_lt] at h1 h4
          exact Int32.toInt_inj.mp (by omega)
      · rw [if_neg h3, if_pos (by decide)]
        rw [Int32.lt_iff_toInt_lt] at h2 h3
        exact Int32.toInt_inj.mp (by omega)
theorem cl_ix (x : Int32) : ix 10 (cl x) := by
  unfold cl
  by_cases h1 : x < 0
  · rw [if_pos h1]; exact ⟨0, by omega, rfl⟩
  · rw [if_neg h1]
    by_cases h2 : 9 < x
    · rw [if_pos h2]; exact ⟨9, by omega, rfl⟩
    · rw [if_neg h2]; exact (ix_le (n := 9) (by omega)).mp ⟨h1, h2⟩
/-! the model -/
theorem m_isOn {h : mH} {g : mG} (hM : MT h g) (d : Nat) (q : Nat) (hq : q < 12) (day : Int32) : ev none (d + 1) mm_X12_isOn 0 [.ref 55, .int (nI q), .int day] [] g = some (some (.int (b2 (onP h day q))), g) := by
  have e := hM.2.2.2.2 q
  rw [b_X12_isOn_0, mi_nI hq (by omega), mi_nI hq (by omega), mi_nI hq (by omega), pk_cl q (hx := rfl), v_X12_in, mb_some, mp_some, b_X12_isOn_25, mi_b2, mi_tt, mi_t2, e.2.2.2.2.2.2.1, e.2.2.2.2.2.2.2.1, e.2.2.2.2.2.2.2.2.2]
  rfl
theorem m_oth {W : mW} {n p : Nat} {h : mH} {g : mG} (hM : MC W n p h g) (d : Nat) (q : Nat) (hq : q < p) (day : Int32) : ev none (d + 2) mm_X12_othersWith 0 [.ref 55, .int (nI q), .int day, .null, .null] [] g = some (some (.int (nI (oth p h day q))), g) := by
  obtain ⟨⟨v1, v2, v3, v4, v5⟩, hT, _⟩ := hM
  have hP : g.1 55 4 = nI p := hT.2.1.trans v4
  rw [b_X12_othersWith_0]
  refine ok_eq (ok_loop (E := fun e (a : Nat) g => ev none (d + 2) mm_X12_othersWith 5 [.ref 55, .int (nI q), .int day, .int (nI a), .int (nI e)] [] g) (I := fun e a g' => a = cnt e (othP h day q) ∧ g' = g) (P := p) ?_ ?_ 0 0 g (by omega) ⟨rfl, rfl⟩)
  · intro e a g' he ⟨ha, hg⟩ next
    subst hg
    have step : ∀ m, m = cnt (e + 1) (othP h day q) → Ok (ev none (d + 2) mm_X12_othersWith 65 [.ref 55, .int (nI q), .int day, .int (nI m), .int (nI e)] [] g') (fun r g2 => r = some (.int (nI (oth p h day q))) ∧ g2 = g') := by
      intro m hm
      rw [b_X12_othersWith_65, nI_1]
      exact next m g' ⟨hm, rfl⟩
    have e1 := hT.2.2.2.2 e
    have e2 := hT.2.2.2.2 q
    show Ok (ev none (d + 2) mm_X12_othersWith 5 [.ref 55, .int (nI q), .int day, .int (nI a), .int (nI e)] [] g') _
    rw [b_X12_othersWith_5, hP, m_if_pos (nI_lt he (by omega)), mi_nI (i := e) (by omega) (by omega), mi_nI (i := q) (by omega) (by omega), mi_nI (i := e) (by omega) (by omega), mi_nI (i := q) (by omega) (by omega), pk_cl e (hx := rfl), pk_cl q (hx := rfl), e1.2.2.1, e2.2.2.1, e1.2.2.2.2.1, e2.2.2.2.2.1, mi_c (nI_eq (by omega) (by omega))]
    by_cases c1 : e = q
    · rw [m_if_pos c1]
      exact step a (by rw [cnt_f (fun x => x.1 c1), ha])
    · rw [m_if_neg c1]
      by_cases c2 : h 58 e = h 58 q
      · rw [m_if_pos c2]
        by_cases c3 : h 60 e = h 60 q
        · rw [m_if_pos c3, m_isOn hT d e (by omega), mb_some, mp_some, b_X12_othersWith_59, mi_b2]
          by_cases c4 : onP h day e
          · rw [m_if_pos c4, nI_1]
            exact step (a + 1) (by rw [cnt_t ⟨c1, c2, c3, c4⟩, ha])
          · rw [m_if_neg c4]
            exact step a (by rw [cnt_f (fun x => c4 x.2.2.2), ha])
        · rw [m_if_neg c3]
          exact step a (by rw [cnt_f (fun x => c3 x.2.2.1), ha])
      · rw [m_if_neg c2]
        exact step a (by rw [cnt_f (fun x => c2 x.2.1), ha])
  · intro a g' ⟨ha, hg⟩
    subst hg
    show Ok (ev none (d + 2) mm_X12_othersWith 5 [.ref 55, .int (nI q), .int day, .int (nI a), .int (nI p)] [] g') _
    rw [b_X12_othersWith_5, hP, m_if_neg (nI_nlt (Nat.le_refl _) (by omega))]
    exact ok_some ⟨by rw [ha]; rfl, rfl⟩
theorem m_hardOn {W : mW} {n p : Nat} {h : mH} {g : mG} (hM : MC W n p h g) (d : Nat) (q : Nat) (hq : q < p) (day : Int32) : Ok (ev none (d + 3) mm_X12_hardOn 0 [.ref 55, .int (nI q), .int day, .null, .null] [] g) (fun r g2 => r = some (.int (hd W p h day q)) ∧ Fr s1 g g2) := by
  have hM0 := hM
  obtain ⟨⟨v1, v2, v3, v4, v5, v6, v7, v8, v9⟩, hT, hL⟩ := hM
  have e2 := hT.2.2.2.2 q
  obtain ⟨f1, f2, f3, f4, f5, f6, f7, f8, f9, f10⟩ := e2
  have hb : ix n (h 58 q) := (v6 q hq).1
  have q12 : ∀ x : Option (Option Value × mG), m_in (nI q) 12 x = x := fun x => mi_nI (by omega) (by omega)
  have c134 : ∀ (s0 s1 : Int32) (g' : mG), ev none (d + 3) mm_X12_hardOn 134 [.ref 55, .int (nI q), .int day, .int s0, .int s1] [] g' = some (some (.int (cl s1)), g') := by
    intro s0 s1 g'
    rw [b_X12_hardOn_134]
    unfold cl
    by_cases c : s1 < 0
    · rw [m_if_pos c, if_pos c]
    · rw [m_if_neg c, if_neg c]
      by_cases c2 : 9 < s1
      · rw [m_if_pos c2, if_pos c2]
      · rw [m_if_neg c2, if_neg c2]
  have c0 : ev none (d + 3) mm_X12_hardOn 0 [.ref 55, .int (nI q), .int day, .null, .null] [] g = ev none (d + 3) mm_X12_hardOn 22 [.ref 55, .int (nI q), .int day, .null, .null] [.int (lf h day q)] g := by
    rw [b_X12_hardOn_0, q12, q12, pk_cl q (hx := rfl), f8]
    unfold lf
    by_cases c : day < h 63 q
    · rw [m_if_pos c, if_pos c]
    · rw [m_if_neg c, if_neg c]
  have c22 : ∀ l : Int32, ev none (d + 3) mm_X12_hardOn 22 [.ref 55, .int (nI q), .int day, .null, .null] [.int l] g = ev none (d + 3) mm_X12_hardOn 41 [.ref 55, .int (nI q), .int day, .int l, .null] [.int (if l < 3 then 1 else 0), .int (h 61 q / 2)] g := by
    intro l
    rw [b_X12_hardOn_22, q12, pk_cl q (hx := rfl), f6]
    by_cases c : l < 3
    · rw [m_if_pos c, if_pos c]
    · rw [m_if_neg c, if_neg c]
  rw [c0, c22, b_X12_hardOn_41, q12, q12, q12, pk_cl q (hx := rfl), f9, f6, f3]
  rcases hL with ⟨l1, l2⟩ | ⟨l1, l2⟩
  · rw [m_if_pos l1, c134]
    refine ok_some ⟨?_, fr_refl⟩
    rw [l2]
    rfl
  · have i0 : vp_in 0 6 := vp6 (k := 0) (by omega)
    have i1 : vp_in 1 6 := vp6 (k := 1) (by omega)
    have i2 : vp_in 2 6 := vp6 (k := 2) (by omega)
    have i3 : vp_in 3 6 := vp6 (k := 3) (by omega)
    have i4 : vp_in 4 6 := vp6 (k := 4) (by omega)
    have i5 : vp_in 5 6 := vp6 (k := 5) (by omega)
    have ib : vp_in (h 58 q) 6 := ix_in (ix_mono hb v1) (by omega)
    rw [m_if_neg (by rw [l1]; decide), mi_in i0, mi_in i1, mi_in ib, mi_in i2]
    generalize hg3 : m_s1 (m_s1 (m_s1 g 77 (Int32.toNatClampNeg 0) (h 61 q)) 77 (Int32.toNatClampNeg 1) (lf h day q)) 77 (Int32.toNatClampNeg 2) (g.1 57 (Int32.toNatClampNeg (h 58 q))) = g3
    have F3 : Fr s1 g g3 := by
      rw [← hg3]
      exact fr_s1 (fr_s1 (fr_s1 fr_refl rfl) rfl) rfl
    have hM3 := MC_fr (fr_1A F3) hM0
    rw [m_oth hM3 d q hq day, mb_some, mp_some, b_X12_hardOn_107, mi_in i3, q12, mi_in i4, mi_in i5, pk_cl q (hx := rfl)]
    have e64 : g3.1 64 q = h 64 q := (F3.1 64 q rfl).trans f9
    have e77 : ∀ k, g3.1 77 k = (m_s1 (m_s1 (m_s1 g 77 (Int32.toNatClampNeg 0) (h 61 q)) 77 (Int32.toNatClampNeg 1) (lf h day q)) 77 (Int32.toNatClampNeg 2) (g.1 57 (Int32.toNatClampNeg (h 58 q)))).1 77 k := fun k => by rw [hg3]
    generalize hg6 : m_s1 (m_s1 (m_s1 g3 77 (Int32.toNatClampNeg 3) (nI (oth p h day q))) 77 (Int32.toNatClampNeg 4) (g3.1 64 q)) 77 (Int32.toNatClampNeg 5) day = g6
    have F6 : Fr s1 g g6 := by
      rw [← hg6]
      exact fr_s1 (fr_s1 (fr_s1 F3 rfl) rfl) rfl
    have l6 : ML W g6 := by
      rcases (MC_fr (fr_1A F6) hM0).2.2 with ⟨x1, x2⟩ | ⟨x1, x2⟩
      · rw [F6.1 55 35 rfl, l1] at x1
        exact absurd x1 (by decide)
      · exact x2
    refine ok_bnd (l6 d g6 (fun k hk => ⟨rfl, rfl⟩) rfl (fun k hk => ⟨rfl, rfl⟩)) ?_
    intro r g7 ⟨hr, F7⟩
    subst hr
    rw [mp_some, b_X12_hardOn_132, c134]
    refine ok_some ⟨?_, fr_trans F6 F7⟩
    have w0 : g6.1 77 0 = h 61 q := by rw [← hg6, ← hg3]; rfl
    have w1 : g6.1 77 1 = lf h day q := by rw [← hg6, ← hg3]; rfl
    have w2 : g6.1 77 2 = h 57 (h 58 q).toNatClampNeg := by
      refine Eq.trans ?_ (hT.2.2.2.2 _).2.1
      rw [← hg6, ← hg3]; rfl
    have w3 : g6.1 77 3 = nI (oth p h day q) := by rw [← hg6]; rfl
    have w4 : g6.1 77 4 = h 64 q := by rw [← e64, ← hg6]; rfl
    have w5 : g6.1 77 5 = day := by rw [← hg6]; rfl
    unfold wf
    rw [w0, w1, w2, w3, w4, w5]
    rfl
theorem m_holdsAt {W : mW} {n p : Nat} {h : mH} {g : mG} (hM : MC W n p h g) (d : Nat) (q : Nat) (hq : q < p) (pl day : Int32) : Ok (ev none (d + 4) mm_X12_holdsAt 0 [.ref 55, .int (nI q), .int pl, .int day] [] g) (fun r g2 => r = some (.int (b2 (h 60 q = pl ∧ grp W p h day q))) ∧ Fr s1 g g2) := by
  have hM0 := hM
  obtain ⟨⟨v1, v2, v3, v4, v5, v6, v7, v8, v9⟩, hT, hL⟩ := hM
  rw [b_X12_holdsAt_0, mi_nI (by omega) (by omega), pk_cl q (hx := rfl), (hT.2.2.2.2 q).2.2.2.2.1]
  refine ok_if (fun c => ?_) (fun c => ?_)
  · rw [m_isOn hT _ q (by omega), mb_some, mp_some, b_X12_holdsAt_16, mi_b2]
    refine ok_if (fun c2 => ?_) (fun c2 => ?_)
    · refine ok_bnd (m_hardOn hM0 d q hq day) ?_
      intro r g2 ⟨hr, F⟩
      subst hr
      rw [mp_some, b_X12_holdsAt_25, F.1 55 13 rfl, hT.2.2.1, mi_ft]
      refine ok_some ⟨?_, F⟩
      congr 2
      exact b2_c ⟨fun x => ⟨c, c2, x⟩, fun x => x.2.2⟩
    · refine ok_some ⟨?_, fr_refl⟩
      rw [b2_f (fun x => c2 x.2.1)]
  · refine ok_some ⟨?_, fr_refl⟩
    rw [b2_f (fun x => c x.1)]
theorem m_heldBy {W : mW} {n p : Nat} {h : mH} {g : mG} (hM : MC W n p h g) (d : Nat) (one pl day : Int32) : Ok (ev none (d + 5) mm_X12_heldBy 0 [.ref 55, .int one, .int pl, .int day, .null, .null] [] g) (fun r g2 => r = some (.int (nI (cnt p (grA W p h one pl day)))) ∧ Fr s1 g g2) := by
  have hM0 := hM
  obtain ⟨⟨v1, v2, v3, v4, v5⟩, hT, _⟩ := hM
  have hP : h 55 4 = nI p := v4
  rw [b_X12_heldBy_0]
  refine ok_loop (E := fun e (a : Nat) g => ev none (d + 5) mm_X12_heldBy 6 [.ref 55, .int one, .int pl, .int day, .int (nI a), .int (nI e)] [] g) (I := fun e a g' => a = cnt e (grA W p h one pl day) ∧ Fr s1 g g') (P := p) ?_ ?_ 0 0 g (by omega) ⟨rfl, fr_refl⟩
  · intro e a g' he ⟨ha, hg⟩ next
    have hM1 := MC_fr (fr_1A hg) hM0
    have step : ∀ m g2, Fr s1 g g2 → m = cnt (e + 1) (grA W p h one pl day) → Ok (ev none (d + 5) mm_X12_heldBy 40 [.ref 55, .int one, .int pl, .int day, .int (nI m), .int (nI e)] [] g2) (fun r g2 => r = some (.int (nI (cnt p (grA W p h one pl day)))) ∧ Fr s1 g g2) := by
      intro m g2 hg2 hm
      rw [b_X12_heldBy_40, nI_1]
      exact next m g2 ⟨hm, hg2⟩
    show Ok (ev none (d + 5) mm_X12_heldBy 6 [.ref 55, .int one, .int pl, .int day, .int (nI a), .int (nI e)] [] g') _
    rw [b_X12_heldBy_6, hM1.2.1.2.1, hP, m_if_pos (nI_lt he (by omega)), mi_nI (i := e) (by omega) (by omega), pk_cl e (hx := rfl), (hM1.2.1.2.2.2.2 e).2.2.1]
    refine ok_if (fun c => ?_) (fun c => ?_)
    · refine ok_bnd (m_holdsAt hM1 d e he pl day) ?_
      intro r g2 ⟨hr, F⟩
      subst hr
      rw [mp_some, b_X12_heldBy_34, mi_b2]
      refine ok_if (fun c2 => ?_) (fun c2 => ?_)
      · rw [nI_1]
        exact step _ _ (fr_trans hg F) (by rw [cnt_t ⟨c, c2⟩, ha])
      · exact step _ _ (fr_trans hg F) (by rw [cnt_f (fun x => c2 x.2), ha])
    · exact step _ _ hg (by rw [cnt_f (fun x => c x.1), ha])
  · intro a g' ⟨ha, hg⟩
    have hM1 := MC_fr (fr_1A hg) hM0
    show Ok (ev none (d + 5) mm_X12_heldBy 6 [.ref 55, .int one, .int pl, .int day, .int (nI a), .int (nI p)] [] g') _
    rw [b_X12_heldBy_6, hM1.2.1.2.1, hP, m_if_neg (nI_nlt (Nat.le_refl _) (by omega))]
    exact ok_some ⟨by rw [ha], hg⟩
theorem m_isHeld {W : mW} {n p : Nat} {h : mH} {g : mG} (hM : MC W n p h g) (d : Nat) (one pl day : Int32) : Ok (ev none (d + 6) mm_X12_isHeld 0 [.ref 55, .int one, .int pl, .int day] [] g) (fun r g2 => r = some (.int (b2 (hld W p h one pl day))) ∧ Fr s1 g g2) := by
  rw [b_X12_isHeld_0]
  refine ok_bnd (m_heldBy hM d one pl day) ?_
  intro r g2 ⟨hr, F⟩
  subst hr
  have hp : p ≤ 12 := hM.1.2.1
  have hc : cnt p (grA W p h one pl day) ≤ p := cnt_le
  rw [mp_some, b_X12_isHeld_7, mi_tt]
  refine ok_some ⟨?_, F⟩
  congr 2
  refine b2_c ?_
  rw [show (0 : Int32) = nI 0 from rfl, nI_ltI (by omega) (by omega)]
  constructor
  · intro h1
    refine Classical.byContradiction (fun h2 => ?_)
    have : cnt p (grA W p h one pl day) = 0 := cnt_0.mpr (fun i hi hg => h2 ⟨i, hi, hg⟩)
    omega
  · intro ⟨q, hq, hg⟩
    refine Nat.pos_of_ne_zero (fun h1 => ?_)
    exact cnt_0.mp h1 q hq hg
theorem m_keptAt {W : mW} {n p : Nat} {h : mH} {g : mG} (hM : MC W n p h g) (d : Nat) (one pl day : Int32) : ev none (d + 2) mm_X12_keptAt 0 [.ref 55, .int one, .int pl, .int day, .null, .null] [] g = some (some (.int (nI (bts p (kpA h one pl day)))), g) := by
  have hM0 := hM
  obtain ⟨⟨v1, v2, v3, v4, v5⟩, hT, _⟩ := hM
  have hP : g.1 55 4 = nI p := hT.2.1.trans v4
  rw [b_X12_keptAt_0]
  refine ok_eq (ok_loop (E := fun e (a : Nat) g => ev none (d + 2) mm_X12_keptAt 6 [.ref 55, .int one, .int pl, .int day, .int (nI a), .int (nI e)] [] g) (I := fun e a g' => a = bts e (kpA h one pl day) ∧ g' = g) (P := p) ?_ ?_ 0 0 g (by omega) ⟨rfl, rfl⟩)
  · intro e a g' he ⟨ha, hg⟩ next
    subst hg
    have step : ∀ m, m = bts (e + 1) (kpA h one pl day) → Ok (ev none (d + 2) mm_X12_keptAt 56 [.ref 55, .int one, .int pl, .int day, .int (nI m), .int (nI e)] [] g') (fun r g2 => r = some (.int (nI (bts p (kpA h one pl day)))) ∧ g2 = g') := by
      intro m hm
      rw [b_X12_keptAt_56, nI_1]
      exact next m g' ⟨hm, rfl⟩
    show Ok (ev none (d + 2) mm_X12_keptAt 6 [.ref 55, .int one, .int pl, .int day, .int (nI a), .int (nI e)] [] g') _
    rw [b_X12_keptAt_6, hP, m_if_pos (nI_lt he (by omega)), mi_nI (i := e) (by omega) (by omega), mi_nI (i := e) (by omega) (by omega), pk_cl e (hx := rfl), (hT.2.2.2.2 e).2.2.1, (hT.2.2.2.2 e).2.2.2.2.1]
    refine ok_if (fun c => ?_) (fun c => ?_)
    · refine ok_if (fun c1 => ?_) (fun c1 => ?_)
      · rw [m_isOn hT _ e (by omega), mb_some, mp_some, b_X12_keptAt_44, mi_b2]
        refine ok_if (fun c2 => ?_) (fun c2 => ?_)
        · rw [t_or1 (by omega)]
          exact step _ (by rw [bts_t ⟨c, c1, c2⟩, ha])
        · exact step _ (by rw [bts_f (fun x => c2 x.2.2), ha])
      · exact step _ (by rw [bts_f (fun x => c1 x.2.1), ha])
    · exact step _ (by rw [bts_f (fun x => c x.1), ha])
  · intro a g' ⟨ha, hg⟩
    subst hg
    show Ok (ev none (d + 2) mm_X12_keptAt 6 [.ref 55, .int one, .int pl, .int day, .int (nI a), .int (nI p)] [] g') _
    rw [b_X12_keptAt_6, hP, m_if_neg (nI_nlt (Nat.le_refl _) (by omega))]
    exact ok_some ⟨by rw [ha], rfl⟩
/-- the weight of some promises -/
def wsm (h : mH) (B : Nat) : Nat → Nat
  | 0 => 0
  | k + 1 => wsm h B k + if B.testBit k then (h 61 k).toNatClampNeg else 0
theorem wsm_le {n p : Nat} {h : mH} (hV : V n p h) {B k : Nat} (hk : k ≤ p) : wsm h B k ≤ 9 * k := by
  induction k with
  | zero => exact Nat.le_refl _
  | succ k ih =>
    have := ih (by omega)
    have i10 := (ix_cl (hV.2.2.2.2.2.1 k (by omega)).2.2.2.1 (by omega)).1
    unfold wsm
    split <;> omega
theorem m_weightsOf {W : mW} {n p : Nat} {h : mH} {g : mG} (hM : MC W n p h g) (d : Nat) (B : Nat) (hB : B < 2 ^ 31) : ev none (d + 1) mm_X12_weightsOf 0 [.ref 55, .int (nI B), .null, .null] [] g = some (some (.int (nI (wsm h B p))), g) := by
  have hM0 := hM
  obtain ⟨⟨v1, v2, v3, v4, v5, v6, v7⟩, hT, _⟩ := hM
  have hP : g.1 55 4 = nI p := hT.2.1.trans v4
  rw [b_X12_weightsOf_0]
  refine ok_eq (ok_loop (E := fun e (a : Nat) g => ev none (d + 1) mm_X12_weightsOf 4 [.ref 55, .int (nI B), .int (nI a), .int (nI e)] [] g) (I := fun e a g' => a = wsm h B e ∧ g' = g) (P := p) ?_ ?_ 0 0 g (by omega) ⟨rfl, rfl⟩)
  · intro e a g' he ⟨ha, hg⟩ next
    subst hg
    show Ok (ev none (d + 1) mm_X12_weightsOf 4 [.ref 55, .int (nI B), .int (nI a), .int (nI e)] [] g') _
    rw [b_X12_weightsOf_4, hP, m_if_pos (nI_lt he (by omega)), v_has _ _ B e hB (by omega), mb_some, mp_some, b_X12_weightsOf_17, mi_b2]
    refine ok_if (fun c => ?_) (fun c => ?_)
    · rw [mi_nI (i := e) (by omega) (by omega), pk_cl e (hx := rfl), (hT.2.2.2.2 e).2.2.2.2.2.1, ← (ix_cl (v6 e he).2.2.2.1 (by omega)).2, nI_add, b_X12_weightsOf_29, nI_1]
      exact next _ g' ⟨by rw [ha]; show _ = wsm h B e + _; rw [if_pos c], rfl⟩
    · rw [b_X12_weightsOf_29, nI_1]
      exact next _ g' ⟨by rw [ha]; show _ = wsm h B e + _; rw [if_neg c]; rfl, rfl⟩
  · intro a g' ⟨ha, hg⟩
    subst hg
    show Ok (ev none (d + 1) mm_X12_weightsOf 4 [.ref 55, .int (nI B), .int (nI a), .int (nI p)] [] g') _
    rw [b_X12_weightsOf_4, hP, m_if_neg (nI_nlt (Nat.le_refl _) (by omega))]
    exact ok_some ⟨by rw [ha], rfl⟩
