/-! OPERATIONS (16): feeds -/
theorem cnt_mono {c : Nat → Prop} {a b : Nat} (h : a ≤ b) : cnt a c ≤ cnt b c := by
  induction b with
  | zero => rw [show a = 0 by omega]; exact Nat.le_refl _
  | succ b ih =>
    by_cases e : a = b + 1
    · rw [e]; exact Nat.le_refl _
    · have := ih (by omega)
      by_cases z : c b
      · rw [cnt_t z]; omega
      · rw [cnt_f z]; omega
theorem cnt_sur {c : Nat → Prop} : ∀ k j, j < cnt k c → ∃ i, i < k ∧ c i ∧ cnt i c = j := by
  intro k
  induction k with
  | zero => intro j h; exact absurd h (by show ¬ j < 0; omega)
  | succ k ih =>
    intro j h
    by_cases z : c k
    · rw [cnt_t z] at h
      by_cases e : j = cnt k c
      · exact ⟨k, by omega, z, e.symm⟩
      · obtain ⟨i, q1, q2, q3⟩ := ih j (by omega)
        exact ⟨i, by omega, q2, q3⟩
    · rw [cnt_f z] at h
      obtain ⟨i, q1, q2, q3⟩ := ih j h
      exact ⟨i, by omega, q2, q3⟩
theorem pop_or1 {a q : Nat} (ha : a < 2 ^ 25) (hq : q < 25) : pop (a ||| 2 ^ q) ≤ pop a + 1 := by
  have h2 : a ||| 2 ^ q < 2 ^ 25 := Nat.or_lt_two_pow ha (Nat.pow_lt_pow_right (by omega) hq)
  have hb : ∀ i, (a ||| 2 ^ q).testBit i = true ↔ (a.testBit i = true ∨ i = q) := fun i => by
    rw [Nat.testBit_or, Bool.or_eq_true, t_tb2, decide_eq_true_eq]
    exact ⟨fun z => z.imp id Eq.symm, fun z => z.imp id Eq.symm⟩
  by_cases c : a.testBit q = true
  · rw [show a ||| 2 ^ q = a from nat_ext (fun i => (hb i).trans ⟨fun z => z.elim id (fun e => by rw [e]; exact c), Or.inl⟩)]
    omega
  · rw [pop_k h2 (by omega), pop_k ha (by omega), cnt_c (fun i _ => hb i), cnt_add (fun i _ z => c (by rw [← z.2]; exact z.1)), cnt_1 hq]
    exact Nat.le_refl _
/-- the places of those who are held -/
noncomputable def HP (W : mW) (p : Nat) (h : mH) (k : Nat) : Nat := bts 25 (fun pl => ∃ i, i < k ∧ h 56 i = nI pl ∧ hld W p h (nI i) (h 56 i) (h 55 14))
theorem HP_f {W : mW} {p : Nat} {h : mH} {k : Nat} (c : ¬ hld W p h (nI k) (h 56 k) (h 55 14)) : HP W p h (k + 1) = HP W p h k := by
  refine bts_c (fun pl _ => ⟨fun ⟨i, z1, z2, z3⟩ => ⟨i, ?_, z2, z3⟩, fun ⟨i, z1, z2, z3⟩ => ⟨i, by omega, z2, z3⟩⟩)
  have : i ≠ k := fun e => by subst e; exact c z3
  omega
theorem HP_t {W : mW} {p : Nat} {h : mH} {k pl : Nat} (c : hld W p h (nI k) (h 56 k) (h 55 14)) (hpl : pl < 25) (e : h 56 k = nI pl) : HP W p h (k + 1) = HP W p h k ||| 2 ^ pl := by
  refine nat_ext (fun i => ?_)
  unfold HP
  rw [Nat.testBit_or, Bool.or_eq_true, bts_bit, bts_bit, t_tb2, decide_eq_true_eq]
  constructor
  · intro ⟨hi, q, h1, h2, h3⟩
    by_cases c : q = k
    · subst c
      rw [e] at h2
      exact Or.inr ((nI_eq (by omega) (by omega)).mp h2)
    · exact Or.inl ⟨hi, q, by omega, h2, h3⟩
  · rintro (⟨hi, q, h1, h2, h3⟩ | z)
    · exact ⟨hi, q, by omega, h2, h3⟩
    · subst z
      exact ⟨hpl, k, by omega, e, c⟩
theorem HP_0 {W : mW} {p : Nat} {h : mH} : HP W p h 0 = 0 := bts_0.mpr (fun i _ => fun ⟨q, hq, _⟩ => by omega)
theorem HP_pop {W : mW} {n p : Nat} {h : mH} (hV : V n p h) : ∀ k, k ≤ n → pop (HP W p h k) ≤ k := by
  intro k
  induction k with
  | zero => intro _; rw [HP_0]; decide
  | succ k ih =>
    intro hk
    have := ih (by omega)
    by_cases c : hld W p h (nI k) (h 56 k) (h 55 14)
    · obtain ⟨pl, hpl, e⟩ := (hV.2.2.2.2.1 k (by omega)).1
      rw [HP_t c hpl e]
      have := pop_or1 (a := HP W p h k) (q := pl) bts_lt hpl
      omega
    · rw [HP_f c]; omega
theorem x_places {W : mW} {n p : Nat} {h : mH} {g : mG} (hX : XR W n p h g) (d : Nat) : Ok (ev none (d + 6) mm_X9_placesOfHeld 0 [.ref 1, .null, .null] [] g) (fun r g2 => r = some (.int (nI (HP W p h n))) ∧ Fr sA g g2) := by
  have hn : n ≤ 6 := hX.1.1
  have hp : p ≤ 12 := hX.1.2.1
  rw [b_X9_placesOfHeld_0]
  refine ok_loop (E := fun k (a : Nat) g => ev none (d + 6) mm_X9_placesOfHeld 4 [.ref 1, .int (nI a), .int (nI k)] [] g) (I := fun k a g3 => a = HP W p h k ∧ Fr sA g g3) (P := n) ?_ ?_ 0 0 g (by omega) ⟨HP_0.symm, fr_refl⟩
  · intro k a g3 hk ⟨ha, hg⟩ next
    have hX3 := XR_fr hg hX
    obtain ⟨pl, hpl, e⟩ := (hX.1.2.2.2.2.1 k hk).1
    show Ok (ev none (d + 6) mm_X9_placesOfHeld 4 [.ref 1, .int (nI a), .int (nI k)] [] g3) _
    rw [b_X9_placesOfHeld_4, hX3.2.1.1, m_if_pos (nI_lt hk (by omega))]
    refine ok_bnd (x_gripsNow hX3 d k hk) ?_
    intro r g4 ⟨hr, F4⟩
    subst hr
    have hg4 := fr_trans hg (fr_2A F4)
    have hX4 := XR_fr hg4 hX
    rw [mp_some, b_X9_placesOfHeld_17, mi_c (bts_ne hp)]
    refine ok_if (fun c => ?_) (fun c => ?_)
    · rw [b_X9_placesOfHeld_31, nI_1]
      exact next a g4 ⟨by rw [HP_f c, ha], hg4⟩
    · rw [mi_nI (by omega) (by omega), pk_cl k (hx := rfl), (hX4.2.1.2.2.1 k (by omega)).1, e, t_or1 (by omega), b_X9_placesOfHeld_31, nI_1]
      exact next _ g4 ⟨by rw [HP_t (Classical.not_not.mp c) hpl e, ha], hg4⟩
  · intro a g3 ⟨ha, hg⟩
    have hX3 := XR_fr hg hX
    show Ok (ev none (d + 6) mm_X9_placesOfHeld 4 [.ref 1, .int (nI a), .int (nI n)] [] g3) _
    rw [b_X9_placesOfHeld_4, hX3.2.1.1, m_if_neg (nI_nlt (Nat.le_refl _) (by omega))]
    exact ok_some ⟨by rw [ha], hg⟩
/-- some round there is -/
theorem lp_some {F : Nat → RS → RS} (hF : ∀ i s, s ≠ none → F i s ≠ none) : ∀ b s, (s ≠ none ∨ ∃ i, i < b ∧ ∀ s, F i s ≠ none) → lp F b s ≠ none := by
  intro b
  induction b with
  | zero =>
    rintro s (h | ⟨i, h, _⟩)
    · exact h
    · omega
  | succ b ih =>
    rintro s (h | ⟨i, h, h2⟩)
    · exact hF b _ (ih s (Or.inl h))
    · by_cases e : i = b
      · subst e; exact h2 _
      · exact hF b _ (ih s (Or.inr ⟨i, by omega, h2⟩))
theorem rnd_keep {st : Nat} : ∀ k dp left wh f tr s, s ≠ none → rnd st k dp left wh f tr s ≠ none := by
  intro k
  induction k with
  | zero =>
    intro dp left wh f tr s h
    cases s with
    | none => exact absurd rfl h
    | some b =>
      show (if f + far wh st < b.1 then some (f + far wh st, tr) else some b) ≠ none
      split <;> exact fun z => by cases z
  | succ k ih =>
    intro dp left wh f tr s h
    refine lp_some (fun i s hs => ?_) 25 s (Or.inl h)
    split
    · exact ih _ _ _ _ _ _ hs
    · exact hs
theorem rnd_some {st : Nat} : ∀ k dp left wh f tr s, k ≤ cnt 25 (fun i => left.testBit i = true) → rnd st k dp left wh f tr s ≠ none := by
  intro k
  induction k with
  | zero =>
    intro dp left wh f tr s _
    cases s with
    | none => exact fun z => by cases z
    | some b =>
      show (if f + far wh st < b.1 then some (f + far wh st, tr) else some b) ≠ none
      split <;> exact fun z => by cases z
  | succ k ih =>
    intro dp left wh f tr s h
    have hex : ∃ i, i < 25 ∧ left.testBit i = true := by
      refine Classical.byContradiction (fun c => ?_)
      have := (cnt_0 (k := 25) (c := fun i => left.testBit i = true)).mpr (fun i hi z => c ⟨i, hi, z⟩)
      omega
    obtain ⟨i, hi, hb⟩ := hex
    refine lp_some (fun i s hs => ?_) 25 s (Or.inr ⟨i, hi, fun s => ?_⟩)
    · split
      · exact rnd_keep _ _ _ _ _ _ _ hs
      · exact hs
    · rw [if_pos hb]
      refine ih _ _ _ _ _ _ ?_
      have hbt : ∀ e, (adn left (2 ^ i)).testBit e = true ↔ (left.testBit e = true ∧ i ≠ e) := fun e => by
        rw [adn_bit, Bool.and_eq_true, Bool.not_eq_true', t_tb2, decide_eq_false_iff_not]
      have q := cnt_less (p := 25) (q := i) (T := fun i => left.testBit i = true) (S := fun e => (adn left (2 ^ i)).testBit e = true) hi hb (fun z => ((hbt i).mp z).2 rfl) (fun e _ z => ((hbt e).mp z).1)
      have q0 : cnt 25 (fun e => e ≠ i ∧ left.testBit e = true ∧ ¬ (adn left (2 ^ i)).testBit e = true) = 0 := cnt_0.mpr (fun e _ ⟨z1, z2, z3⟩ => z3 ((hbt e).mpr ⟨z2, fun y => z1 y.symm⟩))
      omega
noncomputable def fB (st S : Nat) : RS := rnd st (pop S) 0 S st 0 (fun _ => 0) none
/-- the answer -/
noncomputable def fAns (m : Nat) (b : Nat × (Nat → Nat)) (x2 : Int32) : Int32 := @ite _ (x2 < 0) (Classical.propDecidable _) (nI b.1) (@ite _ (x2 < nI m) (Classical.propDecidable _) (nI (b.2 x2.toNatClampNeg)) (-2))
theorem x_least {g : mG} (D : Nat) (hD : 9 ≤ D) (st S : Nat) (x3 : Int32) (hst : st < 25) (hS : S < 2 ^ 25) (hm : pop S ≤ 6) (hx : ¬ x3 < -1) (b : Nat × (Nat → Nat)) (hb : fB st S = some b) : Ok (ev none D mm_X6_leastWay 0 [.ref 26, .int (nI st), .int (nI S), .int x3, .null] [] g) (fun r g2 => r = some (.int (fAns (pop S) b x3)) ∧ Fr sA g g2) := by
  have hmc : pop S = cnt 25 (fun i => S.testBit i = true) := pop_k hS (by omega)
  generalize hme : pop S = m at hm hmc
  obtain ⟨d, rfl⟩ : ∃ d, D = (d + m + 2) + 1 := ⟨D - m - 3, by omega⟩
  rw [b_X6_leastWay_0]
  refine ok_loop (E := fun i (_ : Unit) g => ev none ((d + m + 2) + 1) mm_X6_leastWay 8 [.ref 26, .int (nI st), .int (nI S), .int x3, .int (nI i)] [] g) (I := fun i _ g3 => g3.1 26 3 = nI (cnt i (fun i => S.testBit i = true)) ∧ (∀ j, j < i → S.testBit j = true → g3.1 27 (cnt j (fun i => S.testBit i = true)) = nI j) ∧ Fr sA g g3) (P := 25) ?_ ?_ 0 () _ (by omega) ⟨s1_at, fun _ z => by omega, fr_s1 fr_refl rfl⟩
  · intro i _ g3 hi ⟨i1, i2, i3⟩ next
    show Ok (ev none ((d + m + 2) + 1) mm_X6_leastWay 8 [.ref 26, .int (nI st), .int (nI S), .int x3, .int (nI i)] [] g3) _
    rw [b_X6_leastWay_8, show (25 : Int32) = nI 25 from rfl, m_if_pos (nI_lt hi (by omega)), v_hasBit _ _ _ _ (by omega) (by omega), mb_some, mp_some, b_X6_leastWay_21, mi_b2]
    refine ok_if (fun c => ?_) (fun c => ?_)
    · have q1 : cnt (i + 1) (fun i => S.testBit i = true) = cnt i (fun i => S.testBit i = true) + 1 := cnt_t c
      have q2 : cnt (i + 1) (fun i => S.testBit i = true) ≤ cnt 25 (fun i => S.testBit i = true) := cnt_mono (by omega)
      rw [i1, show (6 : Int32) = nI 6 from rfl, m_if_pos (nI_lt (by omega) (by omega)), mi_nI (by omega) (by omega), pk_cl _ (hx := rfl), b_X6_leastWay_54, nI_1, nI_1]
      refine next () _ ⟨by rw [s1_at, q1], fun j hj hb => ?_, fr_s1 (fr_s1 i3 rfl) rfl⟩
      rw [s1_ne (by omega)]
      by_cases e : j = i
      · subst e; rw [s1_at]
      · have q3 : cnt (j + 1) (fun i => S.testBit i = true) = cnt j (fun i => S.testBit i = true) + 1 := cnt_t hb
        have q4 : cnt (j + 1) (fun i => S.testBit i = true) ≤ cnt i (fun i => S.testBit i = true) := cnt_mono (by omega)
        rw [s1_same (by omega)]
        exact i2 j (by omega) hb
    · rw [b_X6_leastWay_54, nI_1]
      refine next () _ ⟨by rw [cnt_f c]; exact i1, fun j hj hb => i2 j ?_ hb, i3⟩
      have : j ≠ i := fun e => by subst e; exact c hb
      omega
  · intro _ g3 ⟨i1, i2, i3⟩
    rw [← hmc] at i1
    show Ok (ev none ((d + m + 2) + 1) mm_X6_leastWay 8 [.ref 26, .int (nI st), .int (nI S), .int x3, .int 25] [] g3) _
    rw [b_X6_leastWay_8, m_if_neg (by decide), i1]
    refine ok_if (fun c => ?_) (fun c => ?_)
    · have T : ∀ j, j < m → ∃ i, i < 25 ∧ S.testBit i = true ∧ cnt i (fun i => S.testBit i = true) = j ∧ g3.1 27 j = nI i := fun j hj => by
        obtain ⟨i, q1, q2, q3⟩ := cnt_sur (c := fun i => S.testBit i = true) 25 j (by omega)
        exact ⟨i, q1, q2, q3, by rw [← q3]; exact i2 i q1 q2⟩
      have T' : ∀ j, j < m → (g3.1 27 j).toNatClampNeg < 25 ∧ S.testBit (g3.1 27 j).toNatClampNeg = true ∧ cnt (g3.1 27 j).toNatClampNeg (fun i => S.testBit i = true) = j ∧ g3.1 27 j = nI (g3.1 27 j).toNatClampNeg := fun j hj => by
        obtain ⟨i, q1, q2, q3, q4⟩ := T j hj
        rw [q4, nI_clamp (by omega)]
        exact ⟨q1, q2, q3, rfl⟩
      have q := x_round (m := m) (st := st) (t := fun j => (g3.1 27 j).toNatClampNeg) hm hst (fun j hj => (T' j hj).1) (fun i j hij hj => by
        refine Decidable.byContradiction (fun z => ?_)
        have a := (T' i (by omega)).2.2.1
        have b := (T' j hj).2.2.1
        have := cnt_mono (c := fun i => S.testBit i = true) (Nat.le_of_not_lt z)
        omega) m 0 S 0 st 0 (fun _ => 0) none (m_s1 (m_s1 g3 26 4 (nI st)) 26 5 2147483647) d (by omega) (by omega) (fun i => by
        constructor
        · intro z
          have hi : i < 25 := by
            refine Decidable.byContradiction (fun c => ?_)
            have : S.testBit i = false := Nat.testBit_lt_two_pow (Nat.lt_of_lt_of_le hS (Nat.pow_le_pow_right (by omega) (by omega)))
            rw [this] at z
            exact absurd z (by decide)
          have q1 : cnt (i + 1) (fun i => S.testBit i = true) = cnt i (fun i => S.testBit i = true) + 1 := cnt_t z
          have q2 : cnt (i + 1) (fun i => S.testBit i = true) ≤ cnt 25 (fun i => S.testBit i = true) := cnt_mono (by omega)
          exact ⟨cnt i (fun i => S.testBit i = true), by omega, by rw [i2 i hi z, nI_clamp (by omega)], by rw [Nat.zero_testBit]; decide⟩
        · intro ⟨j, z1, z2, _⟩
          rw [← z2]
          exact (T' j z1).2.1) hst (by omega) (by rw [s1_same (by decide), s1_same (by decide)]; exact i1) (by rw [s1_same (by decide), s1_at]) (fun j hj => by rw [s1_ne (by omega), s1_ne (by omega)]; exact (T' j hj).2.2.2) (fun j hj => by omega) ⟨s1_at, fun b hb => by cases hb⟩
      refine ok_bnd q ?_
      intro r g4 ⟨hr, q1, q2, q3⟩
      subst hr
      have eb : rnd st m 0 S st 0 (fun _ => 0) none = some b := by rw [← hb]; unfold fB; rw [hme]
      rw [eb] at q1
      have F4 := fr_trans (fr_s1 (fr_s1 i3 rfl) rfl) (fr_RX q2)
      rw [mp_none, b_X6_leastWay_90]
      refine ok_if (fun c2 => ?_) (fun c2 => ?_)
      · refine ok_some ⟨?_, F4⟩
        unfold fAns
        rw [if_pos c2, q1.1]
        rfl
      · obtain ⟨j, hj, e⟩ := (ix_lt (n := m) (by omega)).mp ⟨c2, c⟩
        subst e
        rw [mi_nI (by omega) (by omega), pk_cl j (hx := rfl), (q1.2 b rfl).2 j hj]
        refine ok_some ⟨?_, F4⟩
        unfold fAns
        rw [if_neg c2, if_pos c, nI_clamp (by omega)]
    · refine ok_some ⟨?_, i3⟩
      unfold fAns
      have : ¬ x3 < 0 := fun z => c (Int32.lt_of_lt_of_le z (Int32.not_lt.mp (nI_pos (by omega))))
      rw [if_neg this, if_neg c]
theorem m_feeds {W : mW} {n p : Nat} {h : mH} {g : mG} (hM : MC W n p h g) (d : Nat) (st : Nat) (x2 : Int32) (hst : st < 25) (b : Nat × (Nat → Nat)) (hb : fB st (HP W p h n) = some b) : Ok (ev none (d + 20) mm_X12_feeds 19 [.ref 55, .int (nI st), .int x2, .int 0, .int 0] [] g) (fun r g2 => r = some (.int (fAns (pop (HP W p h n)) b x2)) ∧ Fr sA g g2) := by
  have hn : n ≤ 6 := hM.1.1
  have hS : HP W p h n < 2 ^ 25 := bts_lt
  have hm := HP_pop (W := W) hM.1 n (Nat.le_refl _)
  refine ok_loop (E := fun k (a : Nat) g => ev none (d + 20) mm_X12_feeds 19 [.ref 55, .int (nI st), .int x2, .int (nI a), .int (nI k)] [] g) (I := fun k a g3 => a = HP W p h k ∧ Fr sA g g3) (P := n) ?_ ?_ 0 0 g (by omega) ⟨HP_0.symm, fr_refl⟩
  · intro k a g3 hk ⟨ha, hg⟩ next
    have hM3 := MC_fr hg hM
    obtain ⟨pl, hpl, e⟩ := (hM.1.2.2.2.2.1 k hk).1
    show Ok (ev none (d + 20) mm_X12_feeds 19 [.ref 55, .int (nI st), .int x2, .int (nI a), .int (nI k)] [] g3) _
    rw [b_X12_feeds_19, MC_n hM3, m_if_pos (nI_lt hk (by omega)), mi_nI (by omega) (by omega), pk_cl k (hx := rfl), (hM3.2.1.2.2.2.2 k).1, hM3.2.1.2.2.2.1]
    refine ok_bnd (m_isHeld hM3 (d + 13) _ _ _) ?_
    intro r g4 ⟨hr, F4⟩
    subst hr
    have hg4 := fr_trans hg (fr_1A F4)
    have hM4 := MC_fr hg4 hM
    rw [mp_some, b_X12_feeds_45, mi_b2]
    refine ok_if (fun c => ?_) (fun c => ?_)
    · rw [mi_nI (by omega) (by omega), pk_cl k (hx := rfl), (hM4.2.1.2.2.2.2 k).1, e, t_or1 (by omega), b_X12_feeds_60, nI_1]
      exact next _ g4 ⟨by rw [HP_t c hpl e, ha], hg4⟩
    · rw [b_X12_feeds_60, nI_1]
      exact next a g4 ⟨by rw [HP_f c, ha], hg4⟩
  · intro a g3 ⟨ha, hg⟩
    have hM3 := MC_fr hg hM
    show Ok (ev none (d + 20) mm_X12_feeds 19 [.ref 55, .int (nI st), .int x2, .int (nI a), .int (nI n)] [] g3) _
    rw [b_X12_feeds_19, MC_n hM3, m_if_neg (nI_nlt (Nat.le_refl _) (by omega)), ha, v_bits31 _ _ _ (by omega), mb_some, mp_some, b_X12_feeds_71]
    generalize hSe : HP W p h n = S at hS hm hb
    generalize hme : pop S = m at hm
    obtain ⟨d', e'⟩ : ∃ d', d + 19 = d' + m + 1 := ⟨d + 18 - m, by omega⟩
    have q := m_round (m := m) (st := st) (by omega) hst m 0 S st 0 (fun _ => 0) none (m_s1 (m_s1 g3 55 43 (nI m)) 55 44 (-1)) d' (by omega) hS hst (by omega) (by rw [s1_same (by decide), s1_at]) (fun j hj => by omega) ⟨s1_at, fun b hb => by cases hb⟩
    rw [← e'] at q
    refine ok_bnd q ?_
    intro r g4 ⟨hr, q1, q2, q3⟩
    subst hr
    have eb : rnd st m 0 S st 0 (fun _ => 0) none = some b := by rw [← hb]; unfold fB; rw [hme]
    rw [eb] at q1
    have F4 := fr_trans (fr_s1 (fr_s1 hg rfl) rfl) (fr_RM q2)
    have e43 : g4.1 55 43 = nI m := by rw [q2.1 55 43 rfl, s1_same (by decide), s1_at]
    rw [mp_none, b_X12_feeds_88, e43]
    refine ok_if (fun c2 => ?_) (fun c2 => ok_if (fun c => ?_) (fun c => ?_))
    · refine ok_some ⟨?_, F4⟩
      unfold fAns
      rw [if_pos c2, q1.1]
      rfl
    · obtain ⟨j, hj, e⟩ := (ix_lt (n := m) (by omega)).mp ⟨c2, c⟩
      subst e
      rw [mi_nI (by omega) (by omega), pk_cl j (hx := rfl), (q1.2 b rfl).2 j hj]
      refine ok_some ⟨?_, F4⟩
      unfold fAns
      rw [if_neg c2, if_pos c, nI_clamp (by omega)]
    · refine ok_some ⟨?_, F4⟩
      unfold fAns
      rw [if_neg c2, if_neg c]
theorem o_feeds : op_feeds Inv 1299 := by
  intro g hI a1 a2
  obtain ⟨n, p, W, hX, hM⟩ := inv_C hI
  have hn : n ≤ 6 := hX.1.1
  by_cases h0 : ix 25 a1
  · by_cases h1 : a2 < -1
    · refine op_bad (-1) hI ?_ ?_
      · rw [b_X11_feeds_0, v_isPlace, mb_some, mp_some, b_X11_feeds_4, mi_b2, m_if_pos h0, m_if_pos h1]
      · rw [b_X12_feeds_0, v_isPlaceOf, mb_some, mp_some, b_X12_feeds_4, mi_b2, m_if_pos h0, m_if_pos h1]
    · obtain ⟨st, hst, e⟩ := h0
      subst e
      have hS : HP W p g.1 n < 2 ^ 25 := bts_lt
      have hm := HP_pop (W := W) hX.1 n (Nat.le_refl _)
      obtain ⟨b, hb⟩ : ∃ b, fB st (HP W p g.1 n) = some b := by
        have := rnd_some (st := st) (pop (HP W p g.1 n)) 0 (HP W p g.1 n) st 0 (fun _ => 0) none (by rw [pop_k hS (by omega)]; exact Nat.le_refl _)
        exact Option.ne_none_iff_exists'.mp this
      refine op_th (fAns (pop (HP W p g.1 n)) b a2) hI ?_ (fun g1 F1 => ?_)
      · rw [b_X11_feeds_0, v_isPlace, mb_some, mp_some, b_X11_feeds_4, mi_b2, m_if_pos (ix_nI hst), m_if_neg h1]
        refine ok_bnd (x_places hX 1292) ?_
        intro r g1 ⟨hr, F1⟩
        subst hr
        rw [mp_some, b_X11_feeds_26]
        refine ok_bnd (x_least 1298 (by omega) st _ a2 hst hS (by omega) h1 b hb) ?_
        intro r g2 ⟨hr, F2⟩
        subst hr
        rw [mp_some, b_X11_feeds_30]
        exact ok_some ⟨rfl, fr_trans F1 F2⟩
      · rw [b_X12_feeds_0, v_isPlaceOf, mb_some, mp_some, b_X12_feeds_4, mi_b2, m_if_pos (ix_nI hst), m_if_neg h1]
        exact m_feeds (MC_fr F1 hM) 1279 st a2 hst b hb
  · refine op_bad (-1) hI ?_ ?_
    · rw [b_X11_feeds_0, v_isPlace, mb_some, mp_some, b_X11_feeds_4, mi_b2, m_if_neg h0]
    · rw [b_X12_feeds_0, v_isPlaceOf, mb_some, mp_some, b_X12_feeds_4, mi_b2, m_if_neg h0]
