/-! OPERATIONS (15): the round of the feeder -/
theorem and_2 (a b x y : Nat) (hx : x < 2) (hy : y < 2) : (2 * a + x) &&& (2 * b + y) = 2 * (a &&& b) + (if x = 1 ∧ y = 1 then 1 else 0) := by
  refine Nat.eq_of_testBit_eq (fun i => ?_)
  rw [Nat.testBit_and]
  cases i with
  | zero =>
    rw [tb_0, tb_0, tb_0]
    have : x = 0 ∨ x = 1 := by omega
    have : y = 0 ∨ y = 1 := by omega
    split <;> simp <;> omega
  | succ i =>
    rw [tb_s, tb_s, tb_s, show (2 * a + x) / 2 = a by omega, show (2 * b + y) / 2 = b by omega, ← Nat.testBit_and]
    congr 1
    split <;> omega
theorem low_F : ∀ b a, 0 < a → a < 2 ^ b → popF b (a &&& (a - 1)) + 1 = popF b a := by
  intro b
  induction b with
  | zero => intro a h1 h2; rw [Nat.pow_zero] at h2; omega
  | succ b ih =>
    intro a h1 h2
    rw [Nat.pow_succ] at h2
    show (a &&& (a - 1)) % 2 + popF b ((a &&& (a - 1)) / 2) + 1 = a % 2 + popF b (a / 2)
    by_cases c : a % 2 = 1
    · have e := and_2 (a / 2) (a / 2) 1 0 (by omega) (by omega)
      rw [show 2 * (a / 2) + 1 = a by omega, show 2 * (a / 2) + 0 = a - 1 by omega, Nat.and_self, if_neg (by omega)] at e
      rw [e, c, show (2 * (a / 2) + 0) % 2 = 0 by omega, show (2 * (a / 2) + 0) / 2 = a / 2 by omega]
      omega
    · have e := and_2 (a / 2) (a / 2 - 1) 0 1 (by omega) (by omega)
      rw [show 2 * (a / 2) + 0 = a by omega, show 2 * (a / 2 - 1) + 1 = a - 1 by omega, if_neg (by omega)] at e
      have := ih (a / 2) (by omega) (by omega)
      rw [e, show a % 2 = 0 by omega, show (2 * (a / 2 &&& (a / 2 - 1)) + 0) % 2 = 0 by omega, show (2 * (a / 2 &&& (a / 2 - 1)) + 0) / 2 = (a / 2 &&& (a / 2 - 1)) by omega]
      omega
theorem low_31 (a : Nat) (h : a < 2 ^ 31) (h0 : 0 < a) : pop (a &&& (a - 1)) + 1 = pop a := low_F 32 a h0 (by omega)
theorem v_bitsOf31 (d : Nat) (g : mG) (x0 : Int32) : ∀ n a m, pop a = n → a < 2 ^ 31 → ev none d mm_X12_bitsOf 4 [.int x0, .int (nI m), .int (nI a)] [] g = some (some (.int (nI (m + pop a))), g) := by
  intro n
  induction n with
  | zero =>
    intro a m h ha
    have h0 : a = 0 := by
      rcases Nat.eq_zero_or_pos a with h1 | h1
      · exact h1
      · have := low_31 a ha h1
        omega
    subst h0
    rw [b_X12_bitsOf_4, m_if_pos nI_0, h]
    rfl
  | succ n ih =>
    intro a m h ha
    rcases Nat.eq_zero_or_pos a with h1 | h1
    · subst h1
      have e0 : pop 0 = 0 := by decide
      omega
    · have h2 := low_31 a ha h1
      have h3 : a &&& (a - 1) ≤ a := Nat.and_le_left
      have e1 : nI a - 1 = nI (a - 1) := by
        have := nI_pred (a - 1)
        rw [show a - 1 + 1 = a by omega] at this
        exact this
      rw [b_X12_bitsOf_4, m_if_neg (nI_ne0 h1 (by omega)), e1, t_and, nI_1, ih (a &&& (a - 1)) (m + 1) (by omega) (by omega)]
      rw [show m + 1 + pop (a &&& (a - 1)) = m + pop a by omega]
theorem v_bits31 (d : Nat) (g : mG) (a : Nat) (h : a < 2 ^ 31) : ev none d mm_X12_bitsOf 0 [.int (nI a), .null, .null] [] g = some (some (.int (nI (pop a))), g) := by
  have := v_bitsOf31 d g (nI a) (pop a) a 0 rfl h
  rw [Nat.zero_add] at this
  rw [b_X12_bitsOf_0]
  exact this
/-- the best round so far -/
abbrev RS := Option (Nat × (Nat → Nat))
def rtake (l : Nat) (tr : Nat → Nat) (s : RS) : RS := match s with
  | none => some (l, tr)
  | some b => if l < b.1 then some (l, tr) else some b
def lp (F : Nat → RS → RS) : Nat → RS → RS
  | 0, s => s
  | i + 1, s => F i (lp F i s)
def upT (tr : Nat → Nat) (dp i : Nat) : Nat → Nat := fun j => if j = dp then i else tr j
def rnd (st : Nat) : Nat → Nat → Nat → Nat → Nat → (Nat → Nat) → RS → RS
  | 0, _, _, wh, f, tr, s => rtake (f + far wh st) tr s
  | k + 1, dp, left, wh, f, tr, s => lp (fun i s => if left.testBit i = true then rnd st k (dp + 1) (adn left (2 ^ i)) i (f + far wh i) (upT tr dp i) s else s) 25 s
theorem lp_id {F : Nat → RS → RS} {s : RS} (a b : Nat) (hab : a ≤ b) (h : ∀ i, a ≤ i → i < b → F i (lp F a s) = lp F a s) : lp F b s = lp F a s := by
  induction b with
  | zero => rw [show a = 0 by omega]
  | succ b ih =>
    by_cases e : a = b + 1
    · rw [e]
    · have := ih (by omega) (fun i h1 h2 => h i h1 (by omega))
      show F b (lp F b s) = _
      rw [this]
      exact h b (by omega) (by omega)
theorem rnd_prune {st : Nat} {b : Nat × (Nat → Nat)} : ∀ k dp left wh f tr, b.1 ≤ f → rnd st k dp left wh f tr (some b) = some b := by
  intro k
  induction k with
  | zero =>
    intro dp left wh f tr h
    show rtake (f + far wh st) tr (some b) = some b
    exact if_neg (by omega)
  | succ k ih =>
    intro dp left wh f tr h
    refine lp_id (s := some b) 0 25 (by omega) (fun i _ _ => ?_)
    show (if left.testBit i = true then rnd st k (dp + 1) (adn left (2 ^ i)) i (f + far wh i) (upT tr dp i) (some b) else some b) = some b
    split
    · exact ih _ _ _ _ _ (by omega)
    · rfl
def oF (o : RS) (e : Int32) : Int32 := match o with
  | none => e
  | some b => nI b.1
/-- the footprint in the model -/
def sRM (c k : Nat) : Bool := (c == 55 && k == 44) || c == 81 || c == 82
theorem fr_RM {g g' : mG} (F : Fr sRM g g') : Fr sA g g' := fr_mono F (fun c k e => by
  unfold sA at e
  unfold sRM
  simp only [Bool.or_eq_false_iff, Bool.and_eq_false_iff, beq_eq_false_iff_ne, ne_eq, decide_eq_false_iff_not] at e ⊢
  omega)
def MS (m : Nat) (s : RS) (g : mG) : Prop := g.1 55 44 = oF s (-1) ∧ ∀ b, s = some b → b.1 < 100 ∧ ∀ j, j < m → g.1 82 j = nI (b.2 j)
theorem m_round {m st : Nat} (hm : m ≤ 6) (hst : st < 25) : ∀ k dp left wh f tr s g d, k + dp = m → left < 2 ^ 25 → wh < 25 → f ≤ 8 * dp → g.1 55 43 = nI m → (∀ j, j < dp → g.1 81 j = nI (tr j)) → MS m s g → Ok (ev none (d + k + 1) mm_X12_goRound 0 [.ref 55, .int (nI st), .int (nI wh), .int (nI dp), .int (nI left), .int (nI f), .null, .null] [] g) (fun r g2 => r = none ∧ MS m (rnd st k dp left wh f tr s) g2 ∧ Fr sRM g g2 ∧ ∀ j, j < dp → g2.1 81 j = g.1 81 j) := by
  intro k
  induction k with
  | zero =>
    intro dp left wh f tr s g d hk hl hw hf e43 htr hS
    have hfar := far_le wh st hw hst
    have edm : dp = m := by omega
    rw [show d + 0 + 1 = d + 1 from rfl, b_X12_goRound_0, e43, edm, m_if_pos rfl, v_farOf _ _ wh hw st hst, mb_some, mp_some, b_X12_goRound_15, nI_add]
    have take : rnd st 0 m left wh f tr s = some (f + far wh st, tr) → Ok (ev none (d + 1) mm_X12_goRound 35 [.ref 55, .int (nI st), .int (nI wh), .int (nI m), .int (nI left), .int (nI f), .int (nI (f + far wh st)), .null] [] g) (fun r g2 => r = none ∧ MS m (rnd st 0 m left wh f tr s) g2 ∧ Fr sRM g g2 ∧ ∀ j, j < m → g2.1 81 j = g.1 81 j) := by
      intro hr
      rw [b_X12_goRound_35]
      refine ok_loop (E := fun i (_ : Unit) g => ev none (d + 1) mm_X12_goRound 44 [.ref 55, .int (nI st), .int (nI wh), .int (nI m), .int (nI left), .int (nI f), .int (nI (f + far wh st)), .int (nI i)] [] g) (I := fun i _ g3 => g3.1 55 44 = nI (f + far wh st) ∧ (∀ j, j < i → g3.1 82 j = nI (tr j)) ∧ Fr sRM g g3 ∧ ∀ j, g3.1 81 j = g.1 81 j) (P := m) ?_ ?_ 0 () _ (by omega) ⟨s1_at, fun _ z => by omega, fr_s1 fr_refl rfl, fun j => s1_ne (by omega)⟩
      · intro i _ g3 hi ⟨i1, i2, i3, i4⟩ next
        show Ok (ev none (d + 1) mm_X12_goRound 44 [.ref 55, .int (nI st), .int (nI wh), .int (nI m), .int (nI left), .int (nI f), .int (nI (f + far wh st)), .int (nI i)] [] g3) _
        rw [b_X12_goRound_44, m_if_pos (nI_lt hi (by omega)), mi_nI (i := i) (by omega) (by omega), mi_nI (i := i) (by omega) (by omega), pk_cl i (hx := rfl), nI_1]
        refine next () _ ⟨(s1_ne (by omega)).trans i1, fun j hj => ?_, fr_s1 i3 rfl, fun j => (s1_ne (by omega)).trans (i4 j)⟩
        by_cases e : j = i
        · subst e; rw [s1_at, i4 j, htr j (by omega)]
        · rw [s1_same e]; exact i2 j (by omega)
      · intro _ g3 ⟨i1, i2, i3, i4⟩
        show Ok (ev none (d + 1) mm_X12_goRound 44 [.ref 55, .int (nI st), .int (nI wh), .int (nI m), .int (nI left), .int (nI f), .int (nI (f + far wh st)), .int (nI m)] [] g3) _
        rw [b_X12_goRound_44, m_if_neg (nI_nlt (Nat.le_refl _) (by omega)), hr]
        refine ok_some ⟨rfl, ⟨i1, fun b hb => ?_⟩, i3, fun j _ => i4 j⟩
        cases hb
        exact ⟨by dsimp only; omega, i2⟩
    rw [hS.1]
    cases s with
    | none =>
      rw [m_if_pos (show oF none (-1) < 0 by decide)]
      exact take rfl
    | some b =>
      have hb := (hS.2 b rfl).1
      rw [m_if_neg (show ¬ oF (some b) (-1) < 0 from nI_pos (by omega)), show oF (some b) (-1) = nI b.1 from rfl, mi_c (nI_ltI (by omega) (by omega))]
      refine ok_if (fun c => take (if_pos c)) (fun c => ok_some ⟨rfl, ?_, fr_refl, fun _ _ => rfl⟩)
      rw [show rnd st 0 m left wh f tr (some b) = some b from if_neg c]
      exact hS
  | succ k ih =>
    intro dp left wh f tr s g d hk hl hw hf e43 htr hS
    rw [show d + (k + 1) + 1 = (d + k + 1) + 1 by omega, b_X12_goRound_0, e43, m_if_neg (fun e => absurd ((nI_eq (by omega) (by omega)).mp e) (by omega))]
    refine ok_loop (E := fun i (_ : Unit) g => ev none ((d + k + 1) + 1) mm_X12_goRound 74 [.ref 55, .int (nI st), .int (nI wh), .int (nI dp), .int (nI left), .int (nI f), .int (nI i), .null] [] g) (I := fun i _ g3 => MS m (lp (fun i s => if left.testBit i = true then rnd st k (dp + 1) (adn left (2 ^ i)) i (f + far wh i) (upT tr dp i) s else s) i s) g3 ∧ Fr sRM g g3 ∧ ∀ j, j < dp → g3.1 81 j = g.1 81 j) (P := 25) ?_ ?_ 0 () g (by omega) ⟨hS, fr_refl, fun _ _ => rfl⟩
    · intro i _ g3 hi ⟨i1, i2, i3⟩ next
      show Ok (ev none ((d + k + 1) + 1) mm_X12_goRound 74 [.ref 55, .int (nI st), .int (nI wh), .int (nI dp), .int (nI left), .int (nI f), .int (nI i), .null] [] g3) _
      rw [b_X12_goRound_74, show (25 : Int32) = nI 25 from rfl, m_if_pos (nI_lt hi (by omega)), v_has _ _ _ _ (by omega) (by omega), mb_some, mp_some, b_X12_goRound_88, mi_b2]
      refine ok_if (fun c => ?_) (fun c => ?_)
      · have hfar := far_le wh i hw hi
        have hle := adn_le left (2 ^ i)
        rw [mi_nI (i := dp) (by omega) (by omega), pk_cl dp (hx := rfl), v_farOf _ _ wh hw i hi, mb_some, mp_some, b_X12_goRound_126, nI_add, t_sh1 i (by omega), t_not, nI_1]
        have q := ih (dp + 1) (adn left (2 ^ i)) i (f + far wh i) (upT tr dp i) (lp (fun i s => if left.testBit i = true then rnd st k (dp + 1) (adn left (2 ^ i)) i (f + far wh i) (upT tr dp i) s else s) i s) (m_s1 g3 81 dp (nI i)) d (by omega) (by omega) hi (by omega) (by rw [s1_ne (by omega), i2.1 55 43 rfl]; exact e43) (fun j hj => by
          unfold upT
          by_cases e : j = dp
          · subst e; rw [s1_at, if_pos rfl]
          · rw [s1_same e, if_neg e, i3 j (by omega)]; exact htr j (by omega)) ⟨by rw [s1_ne (by omega)]; exact i1.1, fun b hb => ⟨(i1.2 b hb).1, fun j hj => by rw [s1_ne (by omega)]; exact (i1.2 b hb).2 j hj⟩⟩
        refine ok_bnd q ?_
        intro r g4 ⟨hr, q1, q2, q3⟩
        subst hr
        rw [mp_none, b_X12_goRound_130, nI_1]
        refine next () g4 ⟨?_, fr_trans (fr_s1 i2 rfl) q2, fun j hj => by rw [q3 j (by omega), s1_same (by omega)]; exact i3 j hj⟩
        show MS m (if left.testBit i = true then _ else _) g4
        rw [if_pos c]
        exact q1
      · rw [b_X12_goRound_130, nI_1]
        refine next () g3 ⟨?_, i2, i3⟩
        show MS m (if left.testBit i = true then _ else _) g3
        rw [if_neg c]
        exact i1
    · intro _ g3 ⟨i1, i2, i3⟩
      show Ok (ev none ((d + k + 1) + 1) mm_X12_goRound 74 [.ref 55, .int (nI st), .int (nI wh), .int (nI dp), .int (nI left), .int (nI f), .int 25, .null] [] g3) _
      rw [b_X12_goRound_74, m_if_neg (by decide)]
      exact ok_some ⟨rfl, i1, i2, i3⟩
/-- the footprint in the class -/
def sRX (c k : Nat) : Bool := (c == 26 && k == 5) || c == 28 || c == 29
theorem fr_RX {g g' : mG} (F : Fr sRX g g') : Fr sA g g' := fr_mono F (fun c k e => by
  unfold sA at e
  unfold sRX
  simp only [Bool.or_eq_false_iff, Bool.and_eq_false_iff, beq_eq_false_iff_ne, ne_eq, decide_eq_false_iff_not] at e ⊢
  omega)
def XS (m : Nat) (s : RS) (g : mG) : Prop := g.1 26 5 = oF s 2147483647 ∧ ∀ b, s = some b → b.1 < 100 ∧ ∀ j, j < m → g.1 29 j = nI (b.2 j)
theorem XS_lt {m : Nat} {s : RS} {g : mG} (h : XS m s g) {l : Nat} (hl : l < 100) : nI l < g.1 26 5 ↔ (∀ b, s = some b → l < b.1) := by
  rw [h.1]
  cases s with
  | none => exact ⟨fun _ b hb => (by cases hb), fun _ => nI_lt (b := 2147483647) (by omega) (by omega)⟩
  | some b =>
    have := (h.2 b rfl).1
    rw [show oF (some b) 2147483647 = nI b.1 from rfl, nI_ltI (by omega) (by omega)]
    exact ⟨fun z b' hb => by cases hb; exact z, fun z => z b rfl⟩
theorem x_round {m st : Nat} {t : Nat → Nat} (hm : m ≤ 6) (hst : st < 25) (ht : ∀ j, j < m → t j < 25) (htm : ∀ i j, i < j → j < m → t i < t j) : ∀ k dp left been wh f tr s g d, k + dp = m → been < 64 → (∀ i, left.testBit i = true ↔ ∃ j, j < m ∧ t j = i ∧ ¬ been.testBit j = true) → wh < 25 → f ≤ 8 * dp → g.1 26 3 = nI m → g.1 26 4 = nI st → (∀ j, j < m → g.1 27 j = nI (t j)) → (∀ j, j < dp → g.1 28 j = nI (tr j)) → XS m s g → Ok (ev none (d + k + 2) mm_X6_goOn 0 [.ref 26, .int (nI wh), .int (nI been), .int (nI f), .int (nI dp), .null, .null] [] g) (fun r g2 => r = none ∧ XS m (rnd st k dp left wh f tr s) g2 ∧ Fr sRX g g2 ∧ ∀ j, j < dp → g2.1 28 j = g.1 28 j) := by
  intro k
  induction k with
  | zero =>
    intro dp left been wh f tr s g d hk hbn hl hw hf e3 e4 e27 htr hS
    have hfar := far_le wh st hw hst
    have edm : dp = m := by omega
    rw [show d + 0 + 2 = (d + 1) + 1 from rfl, b_X6_goOn_0, e3, edm, m_if_neg (nI_nlt (Nat.le_refl _) (by omega)), b_X6_goOn_16, e4, v_distance _ _ wh hw st hst, mb_some, mp_some, b_X6_goOn_26, nI_add]
    refine ok_bnd (P := fun r g2 => r = none ∧ XS m (rnd st 0 m left wh f tr s) g2 ∧ Fr sRX g g2 ∧ ∀ j, j < m → g2.1 28 j = g.1 28 j) ?_ ?_
    · rw [b_X6_takeIfLess_0, mi_c (XS_lt hS (by omega))]
      refine ok_if (fun c => ?_) (fun c => ?_)
      · have hr : rnd st 0 m left wh f tr s = some (f + far wh st, tr) := by
          cases s with
          | none => rfl
          | some b => exact if_pos (c b rfl)
        refine ok_loop (E := fun i (_ : Unit) g => ev none (d + 1) mm_X6_takeIfLess 16 [.ref 26, .int (nI (f + far wh st)), .int (nI i)] [] g) (I := fun i _ g3 => g3.1 26 5 = nI (f + far wh st) ∧ (∀ j, j < i → g3.1 29 j = nI (tr j)) ∧ Fr sRX g g3 ∧ ∀ j, g3.1 28 j = g.1 28 j) (P := m) ?_ ?_ 0 () _ (by omega) ⟨s1_at, fun _ z => by omega, fr_s1 fr_refl rfl, fun j => s1_ne (by omega)⟩
        · intro i _ g3 hi ⟨i1, i2, i3, i4⟩ next
          show Ok (ev none (d + 1) mm_X6_takeIfLess 16 [.ref 26, .int (nI (f + far wh st)), .int (nI i)] [] g3) _
          rw [b_X6_takeIfLess_16, i3.1 26 3 rfl, e3, m_if_pos (nI_lt hi (by omega)), mi_nI (i := i) (by omega) (by omega), mi_nI (i := i) (by omega) (by omega), pk_cl i (hx := rfl), nI_1]
          refine next () _ ⟨(s1_ne (by omega)).trans i1, fun j hj => ?_, fr_s1 i3 rfl, fun j => (s1_ne (by omega)).trans (i4 j)⟩
          by_cases e : j = i
          · subst e; rw [s1_at, i4 j, htr j (by omega)]
          · rw [s1_same e]; exact i2 j (by omega)
        · intro _ g3 ⟨i1, i2, i3, i4⟩
          show Ok (ev none (d + 1) mm_X6_takeIfLess 16 [.ref 26, .int (nI (f + far wh st)), .int (nI m)] [] g3) _
          rw [b_X6_takeIfLess_16, i3.1 26 3 rfl, e3, m_if_neg (nI_nlt (Nat.le_refl _) (by omega)), hr]
          refine ok_some ⟨rfl, ⟨i1, fun b hb => ?_⟩, i3, fun j _ => i4 j⟩
          cases hb
          exact ⟨by dsimp only; omega, i2⟩
      · have hr : rnd st 0 m left wh f tr s = s := by
          cases s with
          | none => exact absurd (fun b hb => by cases hb) c
          | some b => exact if_neg (fun z => c (fun b' hb => by cases hb; exact z))
        rw [hr]
        exact ok_some ⟨rfl, hS, fr_refl, fun _ _ => rfl⟩
    · intro r g2 ⟨hr, q⟩
      subst hr
      rw [mp_none, b_X6_goOn_30]
      exact ok_some ⟨rfl, q⟩
  | succ k ih =>
    intro dp left been wh f tr s g d hk hbn hl hw hf e3 e4 e27 htr hS
    rw [show d + (k + 1) + 2 = (d + k + 2) + 1 by omega, b_X6_goOn_0, e3, m_if_pos (nI_lt (by omega) (by omega)), show (6 : Int32) = nI 6 from rfl, m_if_pos (nI_lt (by omega) (by omega))]
    generalize hF : (fun i s => if left.testBit i = true then rnd st k (dp + 1) (adn left (2 ^ i)) i (f + far wh i) (upT tr dp i) s else s : Nat → RS → RS) = F
    have Ft : ∀ i s, left.testBit i = true → F i s = rnd st k (dp + 1) (adn left (2 ^ i)) i (f + far wh i) (upT tr dp i) s := fun i s c => by rw [← hF]; exact if_pos c
    have Ff : ∀ i s, ¬ left.testBit i = true → F i s = s := fun i s c => by rw [← hF]; exact if_neg c
    have hrnd : rnd st (k + 1) dp left wh f tr s = lp F 25 s := by rw [← hF]; rfl
    -- where the loop stands among the places
    have gap : ∀ a b, a ≤ b → (∀ i, a ≤ i → i < b → ¬ left.testBit i = true) → lp F b s = lp F a s := fun a b h1 h2 => lp_id a b h1 (fun i q1 q2 => Ff i _ (h2 i q1 q2))
    have inj : ∀ i j, i < m → j < m → t i = t j → i = j := fun i j h1 h2 e => by
      rcases Nat.lt_trichotomy i j with c | c | c
      · have := htm i j c h2; omega
      · exact c
      · have := htm j i c h1; omega
    have step : ∀ j, j < m → lp F (if j + 1 < m then t (j + 1) else 25) s = lp F (t j + 1) s := by
      intro j hj
      have hb : t j < (if j + 1 < m then t (j + 1) else 25) := by
        split
        · exact htm j (j + 1) (by omega) (by assumption)
        · exact ht j hj
      refine gap _ _ hb (fun i q1 q2 c => ?_)
      obtain ⟨j', z1, z2, z3⟩ := (hl i).mp c
      rcases Nat.lt_trichotomy j' j with y | y | y
      · have := htm j' j y hj; omega
      · subst y; omega
      · by_cases e : j + 1 < m
        · rw [if_pos e] at q2
          by_cases e2 : j' = j + 1
          · subst e2; omega
          · have := htm (j + 1) j' (by omega) z1; omega
        · omega
    have st0 : lp F (if 0 < m then t 0 else 25) s = s := by
      refine gap 0 _ (Nat.zero_le _) (fun i q1 q2 c => ?_)
      obtain ⟨j', z1, z2, z3⟩ := (hl i).mp c
      rw [if_pos (by omega)] at q2
      by_cases e2 : j' = 0
      · subst e2; omega
      · have := htm 0 j' (by omega) z1; omega
    refine ok_loop (E := fun j (v : Value) g => ev none ((d + k + 2) + 1) mm_X6_goOn 34 [.ref 26, .int (nI wh), .int (nI been), .int (nI f), .int (nI dp), .int (nI j), v] [] g) (I := fun j _ g3 => XS m (lp F (if j < m then t j else 25) s) g3 ∧ Fr sRX g g3 ∧ ∀ j, j < dp → g3.1 28 j = g.1 28 j) (P := m) ?_ ?_ 0 .null g (by omega) ⟨by rw [st0]; exact hS, fr_refl, fun _ _ => rfl⟩
    · intro j v g3 hj ⟨i1, i2, i3⟩ next
      rw [if_pos hj] at i1
      have htj := ht j hj
      have hfar := far_le wh (t j) hw htj
      show Ok (ev none ((d + k + 2) + 1) mm_X6_goOn 34 [.ref 26, .int (nI wh), .int (nI been), .int (nI f), .int (nI dp), .int (nI j), v] [] g3) _
      have nx : ∀ g4, XS m (lp F (t j + 1) s) g4 → Fr sRX g g4 → (∀ j, j < dp → g4.1 28 j = g.1 28 j) → Ok (ev none ((d + k + 2) + 1) mm_X6_goOn 113 [.ref 26, .int (nI wh), .int (nI been), .int (nI f), .int (nI dp), .int (nI j), .int (nI (f + far wh (t j)))] [] g4) (fun r g2 => r = none ∧ XS m (rnd st (k + 1) dp left wh f tr s) g2 ∧ Fr sRX g g2 ∧ ∀ j, j < dp → g2.1 28 j = g.1 28 j) := by
        intro g4 a1 a2 a3
        rw [b_X6_goOn_113, nI_1]
        exact next _ g4 ⟨by rw [step j hj]; exact a1, a2, a3⟩
      have e27' : g3.1 27 j = nI (t j) := by rw [i2.1 27 j rfl]; exact e27 j hj
      rw [b_X6_goOn_34, i2.1 26 3 rfl, e3, m_if_pos (nI_lt hj (by omega)), mi_nI (i := j) (by omega) (by omega), pk_cl j (hx := rfl), e27', v_distance _ _ wh hw _ htj, mb_some, mp_some, b_X6_goOn_55, nI_add, v_hasBit _ _ _ _ (by omega) (by omega), mb_some, mp_some, b_X6_goOn_64, mi_b2]
      refine ok_if (fun c => ?_) (fun c => ?_)
      · refine nx g3 ?_ i2 i3
        rw [show lp F (t j + 1) s = F (t j) (lp F (t j) s) from rfl, Ff _ _ (fun z => ?_)]
        · exact i1
        · obtain ⟨j', z1, z2, z3⟩ := (hl _).mp z
          rw [inj j' j z1 hj z2] at z3
          exact z3 c
      · have hlt : left.testBit (t j) = true := (hl _).mpr ⟨j, hj, rfl, c⟩
        have hlp : lp F (t j + 1) s = rnd st k (dp + 1) (adn left (2 ^ t j)) (t j) (f + far wh (t j)) (upT tr dp (t j)) (lp F (t j) s) := Ft _ _ hlt
        rw [mi_c (XS_lt i1 (by omega))]
        refine ok_if (fun c2 => ?_) (fun c2 => ?_)
        · have hbo : been ||| 2 ^ j < 64 := Nat.or_lt_two_pow (n := 6) hbn (Nat.pow_lt_pow_right (by omega) (by omega))
          rw [mi_nI (i := j) (by omega) (by omega), mi_nI (i := dp) (by omega) (by omega), mi_nI (i := j) (by omega) (by omega), pk_cl j (hx := rfl), pk_cl dp (hx := rfl), e27', t_or1 (by omega), nI_1]
          have q := ih (dp + 1) (adn left (2 ^ t j)) (been ||| 2 ^ j) (t j) (f + far wh (t j)) (upT tr dp (t j)) (lp F (t j) s) (m_s1 g3 28 dp (nI (t j))) d (by omega) hbo (fun i => by
            rw [adn_bit, Bool.and_eq_true, Bool.not_eq_true', t_tb2, decide_eq_false_iff_not, hl i]
            constructor
            · intro ⟨⟨j', z1, z2, z3⟩, z4⟩
              refine ⟨j', z1, z2, fun y => ?_⟩
              rw [Nat.testBit_or, Bool.or_eq_true, t_tb2, decide_eq_true_eq] at y
              rcases y with y | y
              · exact z3 y
              · subst y; exact z4 z2
            · intro ⟨j', z1, z2, z3⟩
              rw [Nat.testBit_or, Bool.or_eq_true, t_tb2, decide_eq_true_eq] at z3
              refine ⟨⟨j', z1, z2, fun y => z3 (Or.inl y)⟩, fun y => z3 (Or.inr ?_)⟩
              exact (inj j' j z1 hj (by omega)).symm) htj (by omega) (by rw [s1_ne (by omega), i2.1 26 3 rfl]; exact e3) (by rw [s1_ne (by omega), i2.1 26 4 rfl]; exact e4) (fun j' hj' => by rw [s1_ne (by omega), i2.1 27 j' rfl]; exact e27 j' hj') (fun j' hj' => by
            unfold upT
            by_cases e : j' = dp
            · subst e; rw [s1_at, if_pos rfl]
            · rw [s1_same e, if_neg e, i3 j' (by omega)]; exact htr j' (by omega)) ⟨by rw [s1_ne (by omega)]; exact i1.1, fun b hb => ⟨(i1.2 b hb).1, fun j' hj' => by rw [s1_ne (by omega)]; exact (i1.2 b hb).2 j' hj'⟩⟩
          refine ok_bnd q ?_
          intro r g4 ⟨hr, q1, q2, q3⟩
          subst hr
          rw [mp_none]
          exact nx g4 (by rw [hlp]; exact q1) (fr_trans (fr_s1 i2 rfl) q2) (fun j' hj' => by rw [q3 j' (by omega), s1_same (by omega)]; exact i3 j' hj')
        · refine nx g3 ?_ i2 i3
          rw [hlp]
          generalize lp F (t j) s = s' at i1 c2
          cases s' with
          | none => exact absurd (fun b hb => by cases hb) c2
          | some b =>
            rw [rnd_prune]
            · exact i1
            · exact Nat.le_of_not_lt (fun z => c2 (fun b' hb => by cases hb; exact z))
    · intro v g3 ⟨i1, i2, i3⟩
      rw [if_neg (by omega)] at i1
      show Ok (ev none ((d + k + 2) + 1) mm_X6_goOn 34 [.ref 26, .int (nI wh), .int (nI been), .int (nI f), .int (nI dp), .int (nI m), v] [] g3) _
      rw [b_X6_goOn_34, i2.1 26 3 rfl, e3, m_if_neg (nI_nlt (Nat.le_refl _) (by omega)), hrnd]
      exact ok_some ⟨rfl, i1, i2, i3⟩
