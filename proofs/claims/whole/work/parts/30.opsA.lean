/-! OPERATIONS (1): those that only tell, days, letting off, forgetting, people -/
theorem upd_at {f : Nat → Int32} {k : Nat} {x : Int32} : upd f k x k = x := by
  unfold upd
  rw [if_pos rfl]
theorem upd_ne {f : Nat → Int32} {k j : Nat} {x : Int32} (h : j ≠ k) : upd f k x j = f j := by
  unfold upd
  rw [if_neg h]
theorem S_eq {nb : Nat} {g g' : mG} (h : I_S nb g) (h0 : ∀ k, g'.1 43 k = g.1 43 k ∧ g'.1 45 k = g.1 45 k ∧ g'.1 47 k = g.1 47 k ∧ g'.1 49 k = g.1 49 k ∧ g'.1 51 k = g.1 51 k ∧ g'.1 53 k = g.1 53 k) (h1 : g'.1 90 = g.1 90) (h2 : g'.1 91 = g.1 91) (h3 : g'.2 = g.2) : I_S nb g' := by
  intro s hs
  have e : ∀ k, g'.1 (43 + 2 * s) k = g.1 (43 + 2 * s) k := fun k => lt6 (P := fun s => g'.1 (43 + 2 * s) k = g.1 (43 + 2 * s) k) hs (h0 k).1 (h0 k).2.1 (h0 k).2.2.1 (h0 k).2.2.2.1 (h0 k).2.2.2.2.1 (h0 k).2.2.2.2.2
  rw [e, e, e, h1, h2, h3]
  exact h s hs
theorem o_count : op_count Inv 1299 := by
  intro g hI a1
  have hI0 := hI
  obtain ⟨n, p, nb, W, hV, hR, ⟨dn, un, c1, c2, c3, c4, c5, c6⟩, ⟨L, p1, p2, p3, p4⟩, hL, hG, ⟨r, b1, b2, b3, b4, b5, b6, b7⟩, hS⟩ := hI
  have q1 : g.1 55 1 = g.1 1 12 := by rw [hV.2.2.1, hR.1]
  have q2 : g.1 55 4 = g.1 1 13 := by rw [hV.2.2.2.1, hR.2.1]
  have q3 : g.1 55 23 = g.1 16 2 := by rw [p3, p2]
  have q4 : g.1 55 16 = g.1 30 5 := by rw [c4, c2]
  have q5 : g.1 55 59 = g.1 39 2 := by rw [b4, b3]
  have q6 : g.1 55 61 = g.1 39 3 := by rw [b6, b5]
  have hX := b_X11_count_0 1299 g a1
  have hM := b_X12_count_0 1299 g a1
  rw [q1, q2, q3, q4, q5, q6, ← hX] at hM
  have : ∃ r, ev none 1299 mm_X11_count 0 [.ref 0, .int a1] [] g = some (some (.int r), g) := by
    rw [hX]
    by_cases h0 : a1 = 0
    · rw [m_if_pos h0]; exact ⟨_, rfl⟩
    rw [m_if_neg h0]
    by_cases h1 : a1 = 1
    · rw [m_if_pos h1]; exact ⟨_, rfl⟩
    rw [m_if_neg h1]
    by_cases h2 : a1 = 2
    · rw [m_if_pos h2]; exact ⟨_, rfl⟩
    rw [m_if_neg h2]
    by_cases h3 : a1 = 3
    · rw [m_if_pos h3]; exact ⟨_, rfl⟩
    rw [m_if_neg h3]
    by_cases h4 : a1 = 4
    · rw [m_if_pos h4]; exact ⟨_, rfl⟩
    rw [m_if_neg h4]
    by_cases h5 : a1 = 5
    · rw [m_if_pos h5]; exact ⟨_, rfl⟩
    rw [m_if_neg h5]; exact ⟨_, rfl⟩
  obtain ⟨r, hr⟩ := this
  exact ⟨r, g, g, hr, hM.trans hr, hI0⟩
theorem o_led : op_led Inv 1299 := by
  intro g hI a1
  have hI0 := hI
  obtain ⟨n, p, nb, W, hV, hR, hC, hP, hL, hG, hB, hS⟩ := hI
  have hX := b_X11_led_0 1299 g a1
  have hM : ev none 1299 mm_X12_led 0 [.ref 55, .int a1] [] g = _ := b_X12_led_0 1298 g a1
  rw [v_in _ g a1 5 6 (by omega) rfl, mb_some, mp_some, b_X12_led_6, mi_b2] at hM
  by_cases h : ix 6 a1
  · have h2 := (ix_lt (n := 6) (by omega)).mpr h
    rw [m_if_neg h2.1, m_if_pos (show a1 < 6 from h2.2), mi_in (ix_in h (by omega))] at hX
    rw [m_if_pos h, mi_in (ix_in h (by omega)), ← (hR.2.2.1 _ (ix_cl h (by omega)).1).2.2] at hM
    exact ⟨_, g, g, hX, hM, hI0⟩
  · rw [m_if_neg h] at hM
    refine ⟨-1, g, g, ?_, hM, hI0⟩
    rw [hX]
    by_cases h0 : a1 < 0
    · rw [m_if_pos h0]
    · rw [m_if_neg h0, m_if_neg (show ¬ a1 < 6 from fun e => h ((ix_lt (n := 6) (by omega)).mp ⟨h0, e⟩))]
theorem o_trace : op_trace Inv 1299 := by
  intro g hI a1
  have hI0 := hI
  obtain ⟨n, p, nb, W, hV, hR, hC, hP, hL, hG, ⟨r, b1, b2, b3, b4, b5, b6, b7, b8⟩, hS⟩ := hI
  have key : ∃ r, ev none 1298 mm_X0_traced 0 [.ref 39, .int a1] [] g = some (some (.int r), g) ∧ ev none 1299 mm_X12_trace 0 [.ref 55, .int a1] [] g = some (some (.int r), g) := by
    rw [b_X0_traced_0, b_X12_trace_0, b5, b6]
    by_cases h0 : a1 < 0
    · rw [m_if_pos h0, m_if_pos h0]; exact ⟨_, rfl, rfl⟩
    rw [m_if_neg h0, m_if_neg h0]
    by_cases h1 : a1 < nI r
    · rw [m_if_pos h1, m_if_pos h1]
      by_cases h2 : a1 < 24
      · have h : ix 24 a1 := (ix_lt (n := 24) (by omega)).mp ⟨h0, h2⟩
        rw [m_if_pos h2, m_if_pos h2, mi_in (ix_in h (by omega)), mi_in (ix_in h (by omega))]
        exact ⟨_, rfl, by rw [b8 _ (ix_cl h (by omega)).1]⟩
      · rw [m_if_neg h2, m_if_neg h2]; exact ⟨_, rfl, rfl⟩
    · rw [m_if_neg h1, m_if_neg h1]; exact ⟨_, rfl, rfl⟩
  obtain ⟨r, h1, h2⟩ := key
  refine ⟨r, g, g, ?_, h2, hI0⟩
  rw [b_X11_trace_0, h1, mb_some, mp_some, b_X11_trace_8]
/-- one bit more, one place of a row more -/
theorem BT_set {x : Int32} {f : Nat → Int32} {q : Nat} (h : BT x f) (hq : q < 12) : BT (x ||| ((1 : Int32) <<< (nI q &&& 31))) (upd f q 1) := by
  obtain ⟨F, h1, h2, h3⟩ := h
  have hp : 2 ^ q < 4096 := Nat.lt_of_lt_of_le (Nat.pow_lt_pow_right (by omega) hq) (by decide)
  refine ⟨F ||| 2 ^ q, Nat.or_lt_two_pow (n := 12) h1 hp, ?_, ?_⟩
  · rw [h2, t_or1 (by omega)]
  · intro i hi
    by_cases e : i = q
    · subst e
      rw [upd_at, b2_t]
      rw [Nat.testBit_or, t_tb2]
      simp
    · rw [upd_ne e, h3 i hi]
      refine b2_c ?_
      rw [Nat.testBit_or, t_tb2, Bool.or_eq_true, decide_eq_true_iff]
      constructor
      · exact fun e => Or.inl e
      · rintro (e2 | e2)
        · exact e2
        · exact absurd e2.symm e
theorem ix_upd {m q : Nat} {f : Nat → Int32} {x : Int32} {i : Nat} (h : ix m x) (hf : ix m (f i)) : ix m (upd f q x i) := by
  by_cases e : i = q
  · subst e; rw [upd_at]; exact h
  · rw [upd_ne e]; exact hf
theorem upd_eq {f f2 : Nat → Int32} {q i : Nat} {x y : Int32} (hx : x = y) (h : f i = f2 i) : upd f q x i = upd f2 q y i := by
  by_cases e : i = q
  · subst e; rw [upd_at, upd_at]; exact hx
  · rw [upd_ne e, upd_ne e]; exact h
theorem o_forget : op_forget Inv 1299 := by
  intro g hI a1
  have hI0 := hI
  obtain ⟨n, p, nb, W, ⟨v1, v2, v3, v4, v5, v6, v7, v8, v9, v10⟩, ⟨r1, r2, r3, r4, r5, r6, r7, r8⟩, hC, hP, hL, hG, hB, hS⟩ := hI
  rw [b_X11_forget_0, v_hasPromise _ g a1 p (by omega) r2, mb_some, mp_some, b_X11_forget_8, mi_b2]
  by_cases h : ix p a1
  · obtain ⟨j, hj, e⟩ := h
    subst e
    have hbt := r5
    obtain ⟨F, f1, f2, f3⟩ := r5
    rw [m_if_pos (ix_nI hj), f2, v_hasBit _ g F j (by omega) (by omega), mb_some, mp_some, b_X11_forget_24, mi_b2]
    by_cases hb : F.testBit j = true
    · rw [m_if_pos hb]
      refine ⟨_, _, _, rfl, ?_, hI0⟩
      rw [b_X12_forget_0, v_isPromise _ g (nI j) p (by omega) v4, mb_some, mp_some, b_X12_forget_5, mi_b2, m_if_pos (ix_nI hj), mi_nI (by omega) (by omega), pk_cl j (hx := rfl), f3 j (by omega), m_if_pos (b2_t hb)]
    · rw [m_if_neg hb]
      refine ⟨_, _, m_s1 (m_s1 g 1 14 ((g.1 1 14) ||| ((1 : Int32) <<< (nI j &&& 31)))) 64 j 1, rfl, ?_, ?_⟩
      · rw [b_X12_forget_0, v_isPromise _ _ (nI j) p (by omega), mb_some, mp_some, b_X12_forget_5, mi_b2, m_if_pos (ix_nI hj), mi_nI (by omega) (by omega), pk_cl j (hx := rfl)]
        · refine (m_if_neg (show ¬ g.1 64 j = 1 by rw [f3 j (by omega), b2_f hb]; decide)).trans ?_
          rw [mi_nI (by omega) (by omega)]
        · exact v4
      · refine ⟨n, p, nb, W, ⟨v1, v2, v3, v4, v5, v6, ?_, ?_, v9, v10⟩, ⟨r1, r2, r3, r4, ?_, r6, r7, r8⟩, hC, hP, hL, hG, hB, S_eq hS (fun _ => ⟨rfl, rfl, rfl, rfl, rfl, rfl⟩) rfl rfl rfl⟩
        · exact fun i hi => ⟨ix_upd ⟨1, by omega, rfl⟩ (v7 i hi).1, (v7 i hi).2⟩
        · exact fun i hi hi2 => ⟨(upd_ne (by omega)).trans (v8 i hi hi2).1, (v8 i hi hi2).2⟩
        · exact BT_set hbt (by omega)
  · rw [m_if_neg h]
    refine ⟨_, _, _, rfl, ?_, hI0⟩
    rw [b_X12_forget_0, v_isPromise _ g a1 p (by omega) v4, mb_some, mp_some, b_X12_forget_5, mi_b2, m_if_neg h]
theorem o_letOff : op_letOff Inv 1299 := by
  intro g hI a1
  have hI0 := hI
  obtain ⟨n, p, nb, W, ⟨v1, v2, v3, v4, v5, v6, v7, v8, v9, v10⟩, ⟨r1, r2, r3, r4, r5, r6, r7, r8⟩, hC, hP, hL, hG, hB, hS⟩ := hI
  rw [b_X11_letOff_0, v_hasPromise _ g a1 p (by omega) r2, mb_some, mp_some, b_X11_letOff_8, mi_b2]
  by_cases h : ix p a1
  · obtain ⟨j, hj, e⟩ := h
    subst e
    have hbt := r6
    obtain ⟨F, f1, f2, f3⟩ := r6
    rw [m_if_pos (ix_nI hj), f2, v_hasBit _ g F j (by omega) (by omega), mb_some, mp_some, b_X11_letOff_24, mi_b2]
    by_cases hb : F.testBit j = true
    · rw [m_if_pos hb]
      refine ⟨_, _, _, rfl, ?_, hI0⟩
      rw [b_X12_letOff_0, v_isPromise _ g (nI j) p (by omega) v4, mb_some, mp_some, b_X12_letOff_5, mi_b2, m_if_pos (ix_nI hj), mi_nI (by omega) (by omega), pk_cl j (hx := rfl), f3 j (by omega), m_if_pos (b2_t hb)]
    · rw [m_if_neg hb, mi_in (show vp_in 4 6 from vp_in_nI (n := 4) (by omega) (by omega)), mi_in (show vp_in 4 6 from vp_in_nI (n := 4) (by omega) (by omega))]
      refine ⟨_, _, m_s1 (m_s1 (m_s1 (m_s1 g 1 15 ((g.1 1 15) ||| ((1 : Int32) <<< (nI j &&& 31)))) 10 4 ((g.1 10 4) + 1)) 65 j 1) 66 4 (g.1 66 4 + 1), rfl, ?_, ?_⟩
      · rw [b_X12_letOff_0, v_isPromise _ _ (nI j) p (by omega), mb_some, mp_some, b_X12_letOff_5, mi_b2, m_if_pos (ix_nI hj), mi_nI (by omega) (by omega), pk_cl j (hx := rfl)]
        · refine (m_if_neg (show ¬ g.1 65 j = 1 by rw [f3 j (by omega), b2_f hb]; decide)).trans ?_
          rw [mi_nI (by omega) (by omega), mi_in (show vp_in 4 6 from vp_in_nI (n := 4) (by omega) (by omega)), mi_in (show vp_in 4 6 from vp_in_nI (n := 4) (by omega) (by omega))]
          rfl
        · exact v4
      · refine ⟨n, p, nb, W, ⟨v1, v2, v3, v4, v5, v6, ?_, ?_, v9, v10⟩, ⟨r1, r2, ?_, r4, r5, ?_, r7, r8⟩, hC, hP, hL, hG, hB, S_eq hS (fun _ => ⟨rfl, rfl, rfl, rfl, rfl, rfl⟩) rfl rfl rfl⟩
        · exact fun i hi => ⟨(v7 i hi).1, ix_upd ⟨1, by omega, rfl⟩ (v7 i hi).2⟩
        · exact fun i hi hi2 => ⟨(v8 i hi hi2).1, (upd_ne (by omega)).trans (v8 i hi hi2).2⟩
        · exact fun i hi => ⟨(r3 i hi).1, (r3 i hi).2.1, upd_eq (by rw [(r3 4 (by omega)).2.2]) (r3 i hi).2.2⟩
        · exact BT_set hbt (by omega)
  · rw [m_if_neg h]
    refine ⟨_, _, _, rfl, ?_, hI0⟩
    rw [b_X12_letOff_0, v_isPromise _ g a1 p (by omega) v4, mb_some, mp_some, b_X12_letOff_5, mi_b2, m_if_neg h]
/-- the day so many days on -/
def dy (t k : Int32) : Int32 := if t + k < 99 then t + k else 99
theorem v_dayBehind (d : Nat) (g : mG) (x k : Int32) : ev none (d + 1) mm_X11_dayBehind 0 [.int x, .int k] [] g = some (some (.int (dy x k)), g) := by
  rw [b_X11_dayBehind_0, b_X11_dayBehind_8]; rfl
theorem v_dayOn (d : Nat) (g : mG) (k : Int32) : ev none d mm_X12_dayOn 0 [.ref 55, .int k] [] g = some (some (.int (dy (g.1 55 14) k)), g) := by
  rw [b_X12_dayOn_0]
  unfold dy
  by_cases h : 99 < g.1 55 14 + k
  · rw [m_if_pos h, if_neg]
    intro h2
    rw [Int32.lt_iff_toInt_lt] at h h2
    omega
  · rw [m_if_neg h]
    by_cases h2 : g.1 55 14 + k < 99
    · rw [if_pos h2]
    · rw [if_neg h2]
      have : g.1 55 14 + k = 99 := by
        rw [← Int32.toInt_inj]
        rw [Int32.lt_iff_toInt_lt] at h h2
        omega
      rw [this]
theorem dy_nI {t k : Nat} (ht : t < 100) (hk : k < 1000) : dy (nI t) (nI k) = nI (if t + k < 99 then t + k else 99) := by
  unfold dy
  rw [nI_add]
  by_cases h : t + k < 99
  · rw [if_pos (show nI (t + k) < 99 from nI_lt (b := 99) h (by omega)), if_pos h]
  · rw [if_neg (show ¬ nI (t + k) < 99 from nI_nlt (b := 99) (by omega) (by omega)), if_neg h]; rfl
theorem dy_ix {t : Int32} {k : Nat} (ht : ix 100 t) (hk : k < 1000) : ix 100 (dy t (nI k)) := by
  obtain ⟨j, hj, e⟩ := ht
  subst e
  rw [dy_nI hj hk]
  split
  · exact ⟨_, by omega, rfl⟩
  · exact ⟨_, by omega, rfl⟩
theorem o_day : op_day Inv 1299 := by
  intro g hI _
  have hI0 := hI
  obtain ⟨n, p, nb, W, ⟨v1, v2, v3, v4, v5, v6, v7, v8, v9, v10⟩, ⟨r1, r2, r3, r4, r5, r6, r7, r8⟩, hC, hP, hL, hG, hB, hS⟩ := hI
  have i5 : vp_in 5 6 := vp_in_nI (n := 5) (by omega) (by omega)
  rw [b_X11_day_0, v_dayBehind, mb_some, mp_some, b_X11_day_15, mi_in i5, mi_in i5]
  refine ⟨_, _, m_s1 (m_s1 (m_s1 (m_s1 g 1 17 (dy (g.1 1 17) 1)) 10 5 ((g.1 10 5) + 1)) 55 14 (dy (g.1 55 14) 1)) 66 5 (g.1 66 5 + 1), rfl, ?_, ?_⟩
  · rw [b_X12_day_0, v_dayOn, mb_some, mp_some, b_X12_day_6, mi_in i5, mi_in i5, r8]
    rfl
  · refine ⟨n, p, nb, W, ⟨v1, v2, v3, v4, v5, v6, v7, v8, v9, dy_ix v10 (k := 1) (by omega)⟩, ⟨r1, r2, ?_, r4, r5, r6, r7, ?_⟩, hC, hP, hL, hG, hB, S_eq hS (fun _ => ⟨rfl, rfl, rfl, rfl, rfl, rfl⟩) rfl rfl rfl⟩
    · exact fun i hi => ⟨(r3 i hi).1, (r3 i hi).2.1, upd_eq (by rw [(r3 5 (by omega)).2.2]) (r3 i hi).2.2⟩
    · exact congrArg (fun z => dy z 1) r8
theorem o_feed : op_feed Inv 1299 := by
  intro g hI a1
  have hI0 := hI
  obtain ⟨n, p, nb, W, hV, hR, hC, ⟨L, p1, p2, p3, p4⟩, hL, hG, hB, hS⟩ := hI
  by_cases h : ix 256 a1
  · have h2 := (ix_le (n := 255) (by omega)).mpr h
    rw [b_X11_feed_0, m_if_neg h2.1, m_if_neg (show ¬ 255 < a1 from h2.2), b_X8_addLetter_0, p2]
    rcases Nat.lt_or_ge L 120 with hl | hl
    · have c1 : nI L < (120 : Int32) := nI_lt (b := 120) hl (by omega)
      have c2 : ¬ nI L = (120 : Int32) := fun e => by
        have := (nI_eq (a := L) (b := 120) (by omega) (by omega)).mp e
        omega
      rw [m_if_pos c1, mi_nI hl (by omega), mb_some, mp_some, b_X11_feed_21, pk_cl L (hx := rfl)]
      refine ⟨_, _, m_s1 (m_s1 (m_s1 (m_s1 g 17 L a1) 16 2 (nI L + 1)) 71 L (a1.toInt8.toInt32)) 55 23 (nI L + 1), rfl, ?_, ?_⟩
      · have p3' : (m_s1 (m_s1 g 17 L a1) 16 2 (nI L + 1)).1 55 23 = nI L := p3
        rw [b_X12_feed_0, v_in _ _ a1 255 256 (by omega) rfl, mb_some, mp_some, b_X12_feed_8, mi_b2, m_if_pos h, p3', m_if_neg c2, mi_nI hl (by omega), pk_cl L (hx := rfl), pk_vb]
      · refine ⟨n, p, nb, W, hV, hR, hC, ⟨L + 1, by omega, nI_1 L, nI_1 L, ?_⟩, hL, hG, hB, S_eq hS (fun _ => ⟨rfl, rfl, rfl, rfl, rfl, rfl⟩) rfl rfl rfl⟩
        intro i hi
        by_cases e : i = L
        · subst e
          obtain ⟨b, hb, e⟩ := h
          exact ⟨b, hb, by rw [← e]; exact upd_at, by rw [← e]; exact upd_at⟩
        · obtain ⟨b, hb, e1, e2⟩ := p4 i (by omega)
          exact ⟨b, hb, (upd_ne e).trans e1, (upd_ne e).trans e2⟩
    · have e : L = 120 := by omega
      subst e
      rw [m_if_neg (show ¬ nI 120 < (120 : Int32) by decide), mb_some, mp_some, b_X11_feed_21]
      refine ⟨_, _, g, rfl, ?_, hI0⟩
      rw [b_X12_feed_0, v_in _ _ a1 255 256 (by omega) rfl, mb_some, mp_some, b_X12_feed_8, mi_b2, m_if_pos h, p3, m_if_pos (show nI 120 = 120 from rfl)]
  · refine ⟨-1, g, g, ?_, ?_, hI0⟩
    · rw [b_X11_feed_0]
      by_cases h0 : a1 < 0
      · rw [m_if_pos h0]
      · rw [m_if_neg h0, m_if_pos]
        refine Decidable.byContradiction (fun e => h ((ix_le (n := 255) (by omega)).mp ⟨h0, e⟩))
    · rw [b_X12_feed_0, v_in _ _ a1 255 256 (by omega) rfl, mb_some, mp_some, b_X12_feed_8, mi_b2, m_if_neg h]
theorem o_body : op_body Inv 1299 := by
  intro g hI a1
  have hI0 := hI
  obtain ⟨n, p, nb, W, hV, hR, hC, hP, hL, hG, ⟨r, b1, b2, b3, b4, b5, b6, b7, b8⟩, hS⟩ := hI
  rw [b_X11_body_0, v_isKind, mb_some, mp_some, b_X11_body_4, mi_b2]
  by_cases h : ix 8 a1
  · rw [m_if_pos h, b_X0_add_0, b3]
    rcases Nat.lt_or_ge nb 50 with hl | hl
    · have c1 : nI nb < (50 : Int32) := nI_lt (b := 50) hl (by omega)
      have c2 : ¬ nI nb = (50 : Int32) := fun e => by
        have := (nI_eq (a := nb) (b := 50) (by omega) (by omega)).mp e
        omega
      rw [m_if_pos c1, mi_nI hl (by omega), mb_some, mp_some, b_X11_body_17, pk_cl nb (hx := rfl)]
      refine ⟨_, _, m_s1 (m_s1 (m_s1 (m_s1 g 40 nb a1) 39 2 (nI nb + 1)) 88 nb a1) 55 59 (nI nb + 1), rfl, ?_, ?_⟩
      · have b4' : (m_s1 (m_s1 g 40 nb a1) 39 2 (nI nb + 1)).1 55 59 = nI nb := b4
        rw [b_X12_body_0, v_in _ _ a1 7 8 (by omega) rfl, mb_some, mp_some, b_X12_body_7, mi_b2, m_if_pos h, b4', m_if_neg c2, mi_nI hl (by omega), pk_cl nb (hx := rfl)]
      · refine ⟨n, p, nb + 1, W, hV, hR, hC, hP, hL, hG, ⟨r, by omega, b2, nI_1 nb, nI_1 nb, b5, b6, ?_, b8⟩, ?_⟩
        · intro i hi
          by_cases e : i = nb
          · subst e
            exact ⟨(upd_at).trans (upd_at).symm, by
              have : upd (g.1 88) i a1 i = a1 := upd_at
              show ix 8 (upd (g.1 88) i a1 i)
              rw [this]; exact h⟩
          · have := b7 i (by omega)
            refine ⟨?_, ?_⟩
            · exact (upd_ne e).trans (this.1.trans (upd_ne e).symm)
            · show ix 8 (upd (g.1 88) nb a1 i)
              rw [upd_ne e]; exact this.2
        · intro s hs
          have h1 := hS s hs
          have e43 : ∀ k, (m_s1 (m_s1 (m_s1 (m_s1 g 40 nb a1) 39 2 (nI nb + 1)) 88 nb a1) 55 59 (nI nb + 1)).1 (43 + 2 * s) k = g.1 (43 + 2 * s) k := fun k => lt6 (P := fun s => (m_s1 (m_s1 (m_s1 (m_s1 g 40 nb a1) 39 2 (nI nb + 1)) 88 nb a1) 55 59 (nI nb + 1)).1 (43 + 2 * s) k = g.1 (43 + 2 * s) k) hs rfl rfl rfl rfl rfl rfl
          rw [e43, e43, e43]
          rcases h1 with h1 | ⟨b, hb, h1⟩ | h1
          · exact Or.inl h1
          · exact Or.inr (Or.inl ⟨b, by omega, h1⟩)
          · exact Or.inr (Or.inr h1)
    · have e : nb = 50 := by omega
      subst e
      rw [m_if_neg (show ¬ nI 50 < (50 : Int32) by decide), mb_some, mp_some, b_X11_body_17]
      refine ⟨_, _, g, rfl, ?_, hI0⟩
      rw [b_X12_body_0, v_in _ _ a1 7 8 (by omega) rfl, mb_some, mp_some, b_X12_body_7, mi_b2, m_if_pos h, b4, m_if_pos (show nI 50 = 50 from rfl)]
  · rw [m_if_neg h]
    refine ⟨_, _, g, rfl, ?_, hI0⟩
    rw [b_X12_body_0, v_in _ _ a1 7 8 (by omega) rfl, mb_some, mp_some, b_X12_body_7, mi_b2, m_if_neg h]
/-- monotone in people, promises -/
theorem CE_mono {n p n2 p2 : Nat} {f a x y : Int32} (h : CE n p f a x y) (hn : n ≤ n2) (hp : p ≤ p2) : CE n2 p2 f a x y := by
  obtain ⟨w, h1, h2, h3, h4, h5, h6, h7⟩ := h
  exact ⟨w, h1, h2, fun e => ix_mono (h3 e) hn, fun e e2 => ix_mono (h4 e e2) hp, h5, h6, h7⟩
theorem C_mono {n p n2 p2 : Nat} {g : mG} (h : I_C n p g) (hn : n ≤ n2) (hp : p ≤ p2) : I_C n2 p2 g := by
  obtain ⟨dn, un, c1, c2, c3, c4, c5, c6⟩ := h
  exact ⟨dn, un, c1, c2, c3, c4, c5, fun i hi => ⟨(c6 i hi).1, (c6 i hi).2.1, (c6 i hi).2.2.1, (c6 i hi).2.2.2.1, CE_mono (c6 i hi).2.2.2.2 hn hp⟩⟩
theorem G_mono {n p n2 p2 : Nat} {g : mG} (h : I_G n p g) (hn : n ≤ n2) (hp : p ≤ p2) : I_G n2 p2 g := by
  rcases h with h | ⟨h1, h2, kn, kp, F, G, a1, a2, a3⟩
  · exact Or.inl h
  · exact Or.inr ⟨h1, h2, kn, kp, F, G, by omega, by omega, a3⟩
theorem o_person : op_person Inv 1299 := by
  intro g hI a1
  have hI0 := hI
  obtain ⟨n, p, nb, W, ⟨v1, v2, v3, v4, v5, v6, v7, v8, v9, v10⟩, ⟨r1, r2, r3, r4, r5, r6, r7, r8⟩, hC, hP, hL, hG, hB, hS⟩ := hI
  rw [b_X11_person_0, v_isPlace, mb_some, mp_some, b_X11_person_4, mi_b2]
  by_cases h : ix 25 a1
  · rw [m_if_pos h, b_X9_addPerson_0, r1]
    rcases Nat.lt_or_ge n 6 with hl | hl
    · have c1 : nI n < (6 : Int32) := nI_lt (b := 6) hl (by omega)
      have c2 : ¬ nI n = (6 : Int32) := fun e => by
        have := (nI_eq (a := n) (b := 6) (by omega) (by omega)).mp e
        omega
      rw [m_if_pos c1, mi_nI hl (by omega), mi_nI hl (by omega), mb_some, mp_some, b_X11_person_17, pk_cl n (hx := rfl)]
      refine ⟨_, _, m_s1 (m_s1 (m_s1 (m_s1 (m_s1 (m_s1 g 2 n a1) 3 n 3) 1 12 (nI n + 1)) 56 n a1) 57 n 3) 55 1 (nI n + 1), rfl, ?_, ?_⟩
      · have v3' : (m_s1 (m_s1 (m_s1 g 2 n a1) 3 n 3) 1 12 (nI n + 1)).1 55 1 = nI n := v3
        rw [b_X12_person_0, v_isPlaceOf, mb_some, mp_some, b_X12_person_4, mi_b2, m_if_pos h, v3', m_if_neg c2, mi_nI hl (by omega), mi_nI hl (by omega), pk_cl n (hx := rfl)]
      · refine ⟨n + 1, p, nb, W, ⟨by omega, v2, nI_1 n, v4, ?_, ?_, v7, v8, v9, v10⟩, ⟨nI_1 n, r2, ?_, r4, r5, r6, r7, r8⟩, C_mono hC (by omega) (Nat.le_refl _), hP, hL, G_mono hG (by omega) (Nat.le_refl _), hB, S_eq hS (fun _ => ⟨rfl, rfl, rfl, rfl, rfl, rfl⟩) rfl rfl rfl⟩
        · intro i hi
          by_cases e : i = n
          · subst e
            exact ⟨by show ix 25 (upd (g.1 56) i a1 i); rw [upd_at]; exact h, by show ix 10 (upd (g.1 57) i 3 i); rw [upd_at]; exact ⟨3, by omega, rfl⟩⟩
          · have := v5 i (by omega)
            exact ⟨by show ix 25 (upd (g.1 56) n a1 i); rw [upd_ne e]; exact this.1, by show ix 10 (upd (g.1 57) n 3 i); rw [upd_ne e]; exact this.2⟩
        · intro i hi
          have := v6 i hi
          exact ⟨ix_mono this.1 (by omega), ix_mono this.2.1 (by omega), this.2.2⟩
        · exact fun i hi => ⟨upd_eq rfl (r3 i hi).1, upd_eq rfl (r3 i hi).2.1, (r3 i hi).2.2⟩
    · have e : n = 6 := by omega
      subst e
      rw [m_if_neg (show ¬ nI 6 < (6 : Int32) by decide), mb_some, mp_some, b_X11_person_17]
      refine ⟨_, _, g, rfl, ?_, hI0⟩
      rw [b_X12_person_0, v_isPlaceOf, mb_some, mp_some, b_X12_person_4, mi_b2, m_if_pos h, v3, m_if_pos (show nI 6 = 6 from rfl)]
  · rw [m_if_neg h]
    refine ⟨_, _, g, rfl, ?_, hI0⟩
    rw [b_X12_person_0, v_isPlaceOf, mb_some, mp_some, b_X12_person_4, mi_b2, m_if_neg h]
