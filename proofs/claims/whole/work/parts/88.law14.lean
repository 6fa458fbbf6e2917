/-! LAW (14): law -/
def sLB (c k : Nat) : Bool := sA c k || ((c == 16 && k == 2) || (c == 55 && k == 23))
def sLW (c k : Nat) : Bool := sLB c k || (sCP c k || sXB c k)
theorem sTL_A {c k : Nat} (h : sA c k = false) : sTL c k = false := by
  simp only [sA, Bool.or_eq_false_iff] at h
  obtain ⟨⟨⟨⟨⟨⟨⟨⟨⟨⟨_, h16⟩, h18⟩, _⟩, _⟩, h55⟩, h72⟩, h74⟩, h75⟩, _⟩, _⟩ := h
  have h55' : (c == 55 && (24 ≤ k && k ≤ 27)) = false := by
    cases hc : (c == 55) with
    | false => rfl
    | true =>
      rw [hc, Bool.true_and] at h55
      simp only [Bool.or_eq_false_iff] at h55
      rw [Bool.true_and]
      exact h55.1.1.1.1
  simp only [sTL, sTP, Bool.or_eq_false_iff]
  exact ⟨⟨⟨⟨h16, h18⟩, h55'⟩, h72⟩, h74, h75⟩
theorem fr_LB {g g2 : mG} (h : Fr sTL g g2) : Fr sLB g g2 := fr_mono h (fun c k e => by
  unfold sLB at e
  exact sTL_A (Bool.or_eq_false_iff.mp e).1)
theorem fr_LW {g g2 : mG} (h : Fr sLB g g2) : Fr sLW g g2 := fr_mono h (fun c k e => by
  unfold sLW at e
  exact (Bool.or_eq_false_iff.mp e).1)
theorem fr_CW {g g2 : mG} (h : Fr sCP g g2) : Fr sLW g g2 := fr_mono h (fun c k e => by
  unfold sLW at e
  exact (Bool.or_eq_false_iff.mp (Bool.or_eq_false_iff.mp e).2).1)
theorem fr_XW {g g2 : mG} (h : Fr sXB g g2) : Fr sLW g g2 := fr_mono h (fun c k e => by
  unfold sLW at e
  exact (Bool.or_eq_false_iff.mp (Bool.or_eq_false_iff.mp e).2).2)
theorem tfx_pos : ∀ (ls : List TLn), 0 < ls.length → 0 < (tfx ls).length := by
  intro ls h
  cases ls with
  | nil => exact absurd h (Nat.not_lt_zero 0)
  | cons x ls =>
    show 0 < ((tlq x.1 ++ (x.2 ++ [(59, 0)])) ++ tfx ls).length
    rw [List.length_append, List.length_append, t_len]
    omega
theorem inv_LW {g g' : mG} (F : Fr sLW g g') {n p nb : Nat} {W : mW} (hV : V n p g.1) (hR : RX n p g.1 g) (hC : I_C n p g) (hP : I_P g') (hL : I_L W g') (hG : I_G n p g) (hB : I_B nb g) (hS : I_S nb g) : Inv g' := by
  have e := F.1
  refine ⟨n, p, nb, W, ?_, ?_, ?_, hP, hL, ?_, ?_, ?_⟩
  · unfold V
    simp only [e 55 1 rfl, e 55 4 rfl, e 56 _ rfl, e 57 _ rfl, e 58 _ rfl, e 59 _ rfl, e 60 _ rfl, e 61 _ rfl, e 62 _ rfl, e 63 _ rfl, e 64 _ rfl, e 65 _ rfl, e 55 13 rfl, e 55 14 rfl]
    exact hV
  · have e4 : g'.1 64 = g.1 64 := funext fun k => e 64 k rfl
    have e5 : g'.1 65 = g.1 65 := funext fun k => e 65 k rfl
    unfold RX
    simp only [e 1 12 rfl, e 1 13 rfl, e 2 _ rfl, e 3 _ rfl, e 10 _ rfl, e 4 _ rfl, e 5 _ rfl, e 6 _ rfl, e 7 _ rfl, e 8 _ rfl, e 9 _ rfl, e 1 14 rfl, e 1 15 rfl, e 1 16 rfl, e 1 17 rfl, e 56 _ rfl, e 57 _ rfl, e 58 _ rfl, e 59 _ rfl, e 60 _ rfl, e 61 _ rfl, e 62 _ rfl, e 63 _ rfl, e4, e5, e 66 _ rfl, e 55 13 rfl, e 55 14 rfl]
    exact hR
  · unfold I_C
    simp only [e 30 5 rfl, e 30 6 rfl, e 55 16 rfl, e 55 17 rfl, e 31 _ rfl, e 32 _ rfl, e 33 _ rfl, e 34 _ rfl, e 67 _ rfl, e 68 _ rfl, e 69 _ rfl, e 70 _ rfl]
    exact hC
  · unfold I_G
    simp only [e 35 8 rfl, e 55 50 rfl, e 35 3 rfl, e 35 4 rfl, e 35 5 rfl, e 35 6 rfl, e 35 7 rfl, e 55 51 rfl, e 55 52 rfl, e 55 53 rfl, e 36 _ rfl, e 37 _ rfl, e 38 _ rfl, e 83 _ rfl, e 84 _ rfl, e 85 _ rfl, e 86 _ rfl, e 87 _ rfl]
    exact hG
  · unfold I_B
    simp only [e 39 2 rfl, e 55 59 rfl, e 39 3 rfl, e 55 61 rfl, e 40 _ rfl, e 88 _ rfl, e 41 _ rfl, e 89 _ rfl]
    exact hB
  · intro s hs
    have s43 : ∀ k, sLW (43 + 2 * s) k = false ∧ sLW (44 + 2 * s) k = false := fun k => lt6 (P := fun s => sLW (43 + 2 * s) k = false ∧ sLW (44 + 2 * s) k = false) hs ⟨rfl, rfl⟩ ⟨rfl, rfl⟩ ⟨rfl, rfl⟩ ⟨rfl, rfl⟩ ⟨rfl, rfl⟩ ⟨rfl, rfl⟩
    have e2 : g'.2 (44 + 2 * s) = g.2 (44 + 2 * s) := funext fun k => F.2 _ k (s43 k).2
    have e3 : g'.2 92 = g.2 92 := funext fun k => F.2 _ k rfl
    rw [e _ 1 (s43 1).1, e _ 2 (s43 2).1, e _ 3 (s43 3).1, e2, e3, e 90 s rfl, e 91 s rfl]
    exact hS s hs
theorem sLB72 {k : Nat} (h : k < 130) : sLB 72 k = false ∧ sLB 73 k = false := by
  have e : ¬ 130 ≤ k := by omega
  constructor <;> simp [sLB, sA, s2, s1, e]
theorem sLB75 {k : Nat} (h : k < 61) : sLB 75 k = false ∧ sLB 76 k = false := by
  have e : ¬ 61 ≤ k := by omega
  constructor <;> simp [sLB, sA, s2, s1, e]
theorem L_LB {W : mW} {g g' : mG} (F : Fr sLB g g') (h : I_L W g) : I_L W g' := by
  have e := F.1
  unfold I_L
  rw [e 12 2 rfl, e 55 35 rfl]
  rcases h with h | ⟨h1, h2, h3, h4⟩
  · exact Or.inl h
  · exact Or.inr ⟨h1, h2, XL_fr (e 12 2 rfl) (fun k => e 13 k rfl) h3, ML_fr (fun k hk => ⟨e 72 k (sLB72 hk).1, e 73 k (sLB72 hk).2⟩) (e 74 0 rfl) (fun k hk => ⟨e 75 k (sLB75 hk).1, e 76 k (sLB75 hk).2⟩) h4⟩
theorem tape_b {g : mG} (h : I_P g) : ∃ L b, TTP 16 2 L b g ∧ TTP 55 23 L b g := by
  obtain ⟨L, p1, p2, p3, p4⟩ := h
  have hc : ∃ b : Nat → Nat, ∀ i, i < L → b i < 256 ∧ g.1 17 i = nI (b i) ∧ g.1 71 i = (nI (b i)).toInt8.toInt32 := by
    refine ⟨fun i => if hi : i < L then Classical.choose (p4 i hi) else 0, fun i hi => ?_⟩
    have := Classical.choose_spec (p4 i hi)
    simp only [dif_pos hi]
    exact this
  obtain ⟨b, hb⟩ := hc
  exact ⟨L, b, ⟨p1, p2, hb⟩, p1, p3, hb⟩
theorem I_P0 {g : mG} (h1 : g.1 16 2 = 0) (h2 : g.1 55 23 = 0) : I_P g := ⟨0, by omega, h1, h2, fun i hi => absurd hi (Nat.not_lt_zero i)⟩
theorem m_rt {L : Nat} {b : Nat → Nat} {g1 : mG} (hM : TTP 55 23 L b g1) {R : Nat × Option (List TLn)} (d : Nat) (dd : 90 ≤ d) (m2 : ∀ d g (Q : Option Value → mG → Prop), 90 ≤ d → TMS L b 0 0 (tfm []) g → g.1 74 1 = nI ([] : List TLn).length → TLS 61 [] g → (∀ g2, TMT L b g R g2 → Ok (ev none (d + 1) mm_X12_readText 86 [.ref 55, .int (nI 0), .null] [] g2) Q) → Ok (ev none d mm_X12_line 0 [.ref 55, .null] [] g) (fun r g2 => r = none ∧ Ok (ev none (d + 1) mm_X12_readText 31 [.ref 55, .int (nI 0), .null] [] g2) Q)) {Q : Option Value → mG → Prop} (hq : ∀ g0 g2, Fr sTL g1 g0 → TMT L b g0 R g2 → Ok (ev none (d + 1) mm_X12_readText 86 [.ref 55, .int (nI 0), .null] [] g2) Q) : Ok (ev none (d + 1) mm_X12_readText 0 [.ref 55, .int (nI 0), .null] [] g1) Q := by
  rw [b_X12_readText_0, show m_in (1 : Int32) 2 = m_in (nI 1) 2 from rfl, mi_nI (by omega) (by omega), show Int32.toNatClampNeg 1 = 1 from rfl]
  have F : Fr sTL g1 (m_s1 (m_s1 (m_s1 (m_s1 (m_s1 g1 55 24 0) 55 25 (-1)) 55 26 0) 55 27 0) 74 1 0) := fr_s1 (fr_s1 (fr_s1 (fr_s1 (fr_s1 fr_refl rfl) rfl) rfl) rfl) rfl
  have hS : TMS L b 0 0 (tfm []) (m_s1 (m_s1 (m_s1 (m_s1 (m_s1 g1 55 24 0) 55 25 (-1)) 55 26 0) 55 27 0) 74 1 0) := by
    obtain ⟨p1, p2, p3⟩ := hM
    refine ⟨⟨p1, (F.1 55 23 rfl).trans p2, fun i hi => ⟨(p3 i hi).1, (F.1 17 i rfl).trans (p3 i hi).2.1, (F.1 71 i rfl).trans (p3 i hi).2.2⟩⟩, by omega, rfl, rfl, rfl, rfl, fun k x hk => ?_⟩
    have : ([] : List TS)[k]? = some x := hk
    exact absurd this (by simp)
  refine ok_bnd (m2 d _ Q dd hS rfl (fun k x hk => absurd hk (by simp)) (fun g2 h2 => hq _ g2 F h2)) ?_
  intro r g2 ⟨hr, q⟩
  subst hr
  exact q
theorem o_law : op_law Inv 1299 := by
  intro g hI _
  obtain ⟨n, p, nb, W, hV, hR, hC, hP, hL, hG, hB, hS⟩ := hI
  obtain ⟨L, b, hX, hM⟩ := tape_b hP
  have hL120 := hX.1
  obtain ⟨R, w, x2, m2⟩ := j_text (L := L) (b := b) hL120 (L + 1) 0 [] (by omega) (by omega) (Nat.le_refl 0) (Nat.le_refl 0) (Nat.le_refl 0) (fun x hx => absurd hx (List.not_mem_nil))
  have F0 : Fr sTP g (m_s1 (m_s1 g 16 3 0) 16 4 0) := fr_s1 (fr_s1 fr_refl rfl) rfl
  have hXS : TXS L b 0 (tfx []) (m_s1 (m_s1 g 16 3 0) 16 4 0) := by
    refine ⟨ttp_fr hX F0, by omega, rfl, rfl, fun k x hk => ?_⟩
    have : ([] : List TS)[k]? = some x := hk
    exact absurd this (by simp)
  obtain ⟨r1, ga, hr1, hq1⟩ := x2 1298 _ (by omega) hXS
  have e1 : ev none 1298 mm_X8_readText 0 [.ref 16, .null] [] g = some (r1, ga) := by
    rw [b_X8_readText_0]
    exact hr1
  rw [b_X11_law_0, e1, mb_some]
  match R, w, hq1, m2 with
  | (f, none), w, hq1, m2 =>
    have hfL : f ≤ L := w
    obtain ⟨hr, h3, Fa⟩ := hq1
    subst hr
    rw [mp_some, b_X11_law_7, m_if_pos rfl, b_X11_law_36, m_if_pos rfl, h3]
    have Fg : Fr sLB g (m_s1 ga 16 2 0) := fr_s1 (fr_LB (fr_PL (fr_trans F0 Fa))) rfl
    have hM1 : TTP 55 23 L b (m_s1 ga 16 2 0) := by
      obtain ⟨p1, p2, p3⟩ := hM
      exact ⟨p1, by rw [s1_ne (by omega), Fa.1 55 23 rfl, F0.1 55 23 rfl]; exact p2, fun i hi => ⟨(p3 i hi).1, by rw [s1_ne (by omega), Fa.1 17 i rfl, F0.1 17 i rfl]; exact (p3 i hi).2.1, by rw [s1_ne (by omega), Fa.1 71 i rfl, F0.1 71 i rfl]; exact (p3 i hi).2.2⟩⟩
    obtain ⟨r2, gb, hr2, hv2, F2, h23, h16⟩ := m_rt hM1 1297 (by omega) m2 (Q := fun r g3 => r = some (.int (nI f)) ∧ Fr sLB (m_s1 ga 16 2 0) g3 ∧ g3.1 55 23 = 0 ∧ g3.1 16 2 = 0) (fun g0 g2 F1 h2 => by
      obtain ⟨q1, q2⟩ := h2
      rw [b_X12_readText_86, q1.2.2.2.1, m_if_neg (nI_pos (n := f) (by omega))]
      exact ok_some ⟨rfl, fr_s1 (fr_LB (fr_trans F1 q2)) rfl, s1_at, by rw [s1_ne (by omega), q2.1 16 2 rfl, F1.1 16 2 rfl, s1_at]⟩)
    subst hv2
    have e2 : ev none 1299 mm_X12_law 0 [.ref 55, .null] [] (m_s1 ga 16 2 0) = some (some (.int (-100 - nI f)), gb) := by
      rw [b_X12_law_0, show (Value.int 0) = Value.int (nI 0) from rfl, hr2, mb_some, mp_some, b_X12_law_5, m_if_neg (nI_pos (n := f) (by omega))]
    have Fz : Fr sLB g gb := fr_trans Fg F2
    exact ⟨_, _, gb, rfl, e2, inv_LW (fr_LW Fz) hV hR hC (I_P0 h16 h23) (L_LB Fz hL) hG hB hS⟩
  | (j, some ls), w, hq1, m2 =>
    obtain ⟨w1, w2, w3, w4, w5, w6⟩ := w
    obtain ⟨hr, hq, Fa⟩ := hq1
    subst hr
    rw [mp_some, b_X11_law_7, m_if_neg (by decide), hq.2.2.2.1]
    obtain ⟨rb, gc, hrb, hvb, c12, c13, Fc⟩ := x_become (C := tfx ls) (g := ga) (by omega) hq.2.2.2.2 1297
    subst hvb
    rw [hrb, mb_some, mp_none, b_X11_law_36, m_if_neg (by decide)]
    have hM1 : TTP 55 23 L b (m_s1 gc 16 2 0) := by
      obtain ⟨p1, p2, p3⟩ := hM
      exact ⟨p1, by rw [s1_ne (by omega), Fc.1 55 23 rfl, Fa.1 55 23 rfl, F0.1 55 23 rfl]; exact p2, fun i hi => ⟨(p3 i hi).1, by rw [s1_ne (by omega), Fc.1 17 i rfl, Fa.1 17 i rfl, F0.1 17 i rfl]; exact (p3 i hi).2.1, by rw [s1_ne (by omega), Fc.1 71 i rfl, Fa.1 71 i rfl, F0.1 71 i rfl]; exact (p3 i hi).2.2⟩⟩
    obtain ⟨r2, gb, hr2, hv2, k72, k74, kT, k23, F2, k16, k12, k13⟩ := m_rt hM1 1297 (by omega) m2 (Q := fun r g3 => r = some (.int (-1)) ∧ (∀ k x, (tfm ls)[k]? = some x → g3.1 72 k = nI x.1 ∧ g3.1 73 k = nI x.2) ∧ g3.1 74 0 = nI ls.length ∧ TLS 0 ls g3 ∧ g3.1 55 23 = 0 ∧ Fr sLW (m_s1 gc 16 2 0) g3 ∧ g3.1 16 2 = 0 ∧ g3.1 12 2 = gc.1 12 2 ∧ ∀ k, g3.1 13 k = gc.1 13 k) (fun g0 g2 F1 h2 => by
      obtain ⟨q1, q2, q3, q4⟩ := h2
      refine ok_mono (m_lawcopy w5 w3 w4 q1 q2 q3 1297) ?_
      intro r g3 ⟨y1, y2, y3, y4, y5, y6⟩
      refine ⟨y1, y2, y3, y4, y5, fr_trans (fr_LW (fr_LB (fr_trans F1 q4))) (fr_CW y6), ?_, ?_, fun k => ?_⟩
      · rw [y6.1 16 2 rfl, q4.1 16 2 rfl, F1.1 16 2 rfl, s1_at]
      · rw [y6.1 12 2 rfl, q4.1 12 2 rfl, F1.1 12 2 rfl, s1_ne (by omega)]
      · rw [y6.1 13 k rfl, q4.1 13 k rfl, F1.1 13 k rfl, s1_ne (by omega)])
    subst hv2
    have e2 : ev none 1299 mm_X12_law 0 [.ref 55, .null] [] (m_s1 gc 16 2 0) = some (some (.int 1), m_s1 gb 55 35 1) := by
      rw [b_X12_law_0, show (Value.int 0) = Value.int (nI 0) from rfl, hr2, mb_some, mp_some, b_X12_law_5, m_if_pos tm1]
    refine ⟨_, _, _, rfl, e2, ?_⟩
    have Fz : Fr sLW g (m_s1 gb 55 35 1) := fr_s1 (fr_trans (fr_s1 (fr_trans (fr_LW (fr_LB (fr_PL (fr_trans F0 Fa)))) (fr_XW Fc)) rfl) F2) rfl
    have hpos := tfx_pos ls w2
    refine inv_LW (W := tW ls) Fz hV hR hC (I_P0 (by rw [s1_ne (by omega)]; exact k16) (by rw [s1_same (by decide)]; exact k23)) (Or.inr ⟨?_, s1_at, ?_, ?_⟩) hG hB hS
    · rw [s1_ne (by omega), k12, c12]
      exact nI_lt (a := 0) hpos (by omega)
    · refine x_law w5 (by omega) ?_ (fun k x hk => ?_)
      · rw [s1_ne (by omega), k12, c12]
      · rw [s1_ne (by omega), k13]
        exact c13 k x hk
    · refine m_law w5 w3 (by omega) ?_ (fun k x hk => ?_) (fun k x hk => ?_)
      · rw [s1_ne (by omega)]; exact k74
      · rw [s1_ne (by omega), s1_ne (by omega)]; exact k72 k x hk
      · rw [s1_ne (by omega), s1_ne (by omega)]; exact kT k x hk
