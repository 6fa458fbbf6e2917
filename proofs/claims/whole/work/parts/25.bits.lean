/-! THE MATHEMATICS (2): bits, counts -/
theorem t_lit (n : Nat) : (OfNat.ofNat n : Int32) = nI n := rfl
theorem t_and (a b : Nat) : nI a &&& nI b = nI (a &&& b) := by
  apply Int32.toBitVec_inj.1
  show BitVec.ofNat 32 a &&& BitVec.ofNat 32 b = BitVec.ofNat 32 (a &&& b)
  apply BitVec.eq_of_getLsbD_eq
  intro i hi
  simp [hi]
theorem t_or (a b : Nat) : nI a ||| nI b = nI (a ||| b) := by
  apply Int32.toBitVec_inj.1
  show BitVec.ofNat 32 a ||| BitVec.ofNat 32 b = BitVec.ofNat 32 (a ||| b)
  apply BitVec.eq_of_getLsbD_eq
  intro i hi
  simp [hi]
theorem t_m1 : ((-1 : Int32)).toBitVec = BitVec.allOnes 32 := by decide
/-- a without b -/
def adn (a b : Nat) : Nat := a ^^^ (a &&& b)
theorem adn_bit (a b i : Nat) : (adn a b).testBit i = (a.testBit i && !b.testBit i) := by
  unfold adn
  rw [Nat.testBit_xor, Nat.testBit_and]
  cases a.testBit i <;> cases b.testBit i <;> rfl
theorem t_not (a b : Nat) : nI a &&& (nI b ^^^ (-1)) = nI (adn a b) := by
  apply Int32.toBitVec_inj.1
  show BitVec.ofNat 32 a &&& (BitVec.ofNat 32 b ^^^ (-1 : Int32).toBitVec) = BitVec.ofNat 32 (adn a b)
  rw [t_m1]
  apply BitVec.eq_of_getLsbD_eq
  intro i hi
  simp only [BitVec.getLsbD_and, BitVec.getLsbD_xor, BitVec.getLsbD_allOnes, BitVec.getLsbD_ofNat, hi, adn_bit, decide_true, Bool.true_and, Bool.xor_true]
theorem t_sl : ∀ n, n < 32 → ((nI n &&& 31).toBitVec.smod 32).toNat = n := by decide +kernel
theorem t_sh1 : ∀ q, q < 32 → (1 : Int32) <<< (nI q &&& 31) = nI (2 ^ q) := by decide +kernel
theorem t_shr {a i : Nat} (h : a < 2 ^ 31) (hi : i < 32) : nI a >>> (nI i &&& 31) = nI (a / 2 ^ i) := pk_shrN h _ _ (t_sl i hi)
theorem t_shl {a i : Nat} (hi : i < 32) (h : a * 2 ^ i < 2 ^ 32) : nI a <<< (nI i &&& 31) = nI (a * 2 ^ i) := pk_shlN _ _ (t_sl i hi) h
theorem t_bit {a i : Nat} (h : a < 2 ^ 31) (hi : i < 32) : (nI a >>> (nI i &&& 31)) &&& 1 = b2 (a.testBit i = true) := by
  rw [t_shr h hi]
  have e : nI (a / 2 ^ i) &&& 1 = nI (a / 2 ^ i &&& 1) := t_and _ 1
  rw [e, Nat.and_one_is_mod]
  have e2 : a.testBit i = decide (a / 2 ^ i % 2 = 1) := by rw [Nat.testBit_eq_decide_div_mod_eq]
  rcases Nat.mod_two_eq_zero_or_one (a / 2 ^ i) with h0 | h0
  · rw [h0, b2_f (by rw [e2, h0]; decide)]; rfl
  · rw [h0, b2_t (by rw [e2, h0]; decide)]; rfl
theorem t_or1 {a q : Nat} (hq : q < 32) : nI a ||| ((1 : Int32) <<< (nI q &&& 31)) = nI (a ||| 2 ^ q) := by
  rw [t_sh1 q hq, t_or]
theorem t_tb2 (q i : Nat) : (2 ^ q).testBit i = decide (q = i) := by
  rw [Nat.testBit_two_pow]
/-- how many below k -/
noncomputable def cnt : Nat → (Nat → Prop) → Nat
  | 0, _ => 0
  | k + 1, c => cnt k c + @ite _ (c k) (Classical.propDecidable _) 1 0
/-- which below k, as bits -/
noncomputable def bts : Nat → (Nat → Prop) → Nat
  | 0, _ => 0
  | k + 1, c => @ite _ (c k) (Classical.propDecidable _) (bts k c ||| 2 ^ k) (bts k c)
theorem cnt_t {k : Nat} {c : Nat → Prop} (h : c k) : cnt (k + 1) c = cnt k c + 1 := by
  show cnt k c + @ite _ (c k) (Classical.propDecidable _) 1 0 = _
  rw [if_pos h]
theorem cnt_f {k : Nat} {c : Nat → Prop} (h : ¬ c k) : cnt (k + 1) c = cnt k c := by
  show cnt k c + @ite _ (c k) (Classical.propDecidable _) 1 0 = _
  rw [if_neg h]; rfl
theorem bts_t {k : Nat} {c : Nat → Prop} (h : c k) : bts (k + 1) c = bts k c ||| 2 ^ k := by
  show @ite _ (c k) (Classical.propDecidable _) _ _ = _
  rw [if_pos h]
theorem bts_f {k : Nat} {c : Nat → Prop} (h : ¬ c k) : bts (k + 1) c = bts k c := by
  show @ite _ (c k) (Classical.propDecidable _) _ _ = _
  rw [if_neg h]
theorem cnt_le {k : Nat} {c : Nat → Prop} : cnt k c ≤ k := by
  induction k with
  | zero => exact Nat.le_refl 0
  | succ k ih =>
    by_cases h : c k
    · rw [cnt_t h]; omega
    · rw [cnt_f h]; omega
theorem cnt_c {k : Nat} {c e : Nat → Prop} (h : ∀ i, i < k → (c i ↔ e i)) : cnt k c = cnt k e := by
  induction k with
  | zero => rfl
  | succ k ih =>
    have i1 := ih (fun i hi => h i (by omega))
    by_cases h1 : c k
    · rw [cnt_t h1, cnt_t ((h k (by omega)).mp h1), i1]
    · rw [cnt_f h1, cnt_f (fun e => h1 ((h k (by omega)).mpr e)), i1]
theorem bts_c {k : Nat} {c e : Nat → Prop} (h : ∀ i, i < k → (c i ↔ e i)) : bts k c = bts k e := by
  induction k with
  | zero => rfl
  | succ k ih =>
    have i1 := ih (fun i hi => h i (by omega))
    by_cases h1 : c k
    · rw [bts_t h1, bts_t ((h k (by omega)).mp h1), i1]
    · rw [bts_f h1, bts_f (fun e => h1 ((h k (by omega)).mpr e)), i1]
theorem cnt_0 {k : Nat} {c : Nat → Prop} : cnt k c = 0 ↔ ∀ i, i < k → ¬ c i := by
  induction k with
  | zero => exact ⟨fun _ i h => absurd h (by omega), fun _ => rfl⟩
  | succ k ih =>
    by_cases h1 : c k
    · rw [cnt_t h1]
      exact ⟨fun h => absurd h (by omega), fun h => absurd h1 (h k (by omega))⟩
    · rw [cnt_f h1, ih]
      constructor
      · intro h i hi
        rcases Nat.lt_or_ge i k with hk | hk
        · exact h i hk
        · have : i = k := by omega
          rw [this]; exact h1
      · exact fun h i hi => h i (by omega)
theorem bts_lt {k : Nat} {c : Nat → Prop} : bts k c < 2 ^ k := by
  induction k with
  | zero => exact Nat.one_pos
  | succ k ih =>
    have h2 : (2 : Nat) ^ (k + 1) = 2 ^ k * 2 := Nat.pow_succ ..
    by_cases h : c k
    · rw [bts_t h]
      exact Nat.or_lt_two_pow (by omega) (by omega)
    · rw [bts_f h]; omega
theorem bts_bit {k : Nat} {c : Nat → Prop} (i : Nat) : (bts k c).testBit i = true ↔ i < k ∧ c i := by
  induction k with
  | zero =>
    show (0 : Nat).testBit i = true ↔ _
    rw [Nat.zero_testBit]
    exact ⟨fun h => absurd h (by decide), fun h => absurd h.1 (by omega)⟩
  | succ k ih =>
    by_cases h : c k
    · rw [bts_t h, Nat.testBit_or, t_tb2, Bool.or_eq_true, ih, decide_eq_true_iff]
      constructor
      · rintro (⟨h1, h2⟩ | h1)
        · exact ⟨by omega, h2⟩
        · subst h1; exact ⟨by omega, h⟩
      · intro ⟨h1, h2⟩
        rcases Nat.lt_or_ge i k with hk | hk
        · exact Or.inl ⟨hk, h2⟩
        · exact Or.inr (by omega)
    · rw [bts_f h, ih]
      constructor
      · exact fun ⟨h1, h2⟩ => ⟨by omega, h2⟩
      · intro ⟨h1, h2⟩
        rcases Nat.lt_or_ge i k with hk | hk
        · exact ⟨hk, h2⟩
        · have e : i = k := by omega
          rw [e] at h2
          exact absurd h2 h
theorem nat_ext {a b : Nat} (h : ∀ i, a.testBit i = true ↔ b.testBit i = true) : a = b := by
  apply Nat.eq_of_testBit_eq
  intro i
  have := h i
  cases h1 : a.testBit i <;> cases h2 : b.testBit i <;> simp_all
theorem bts_tb {k a : Nat} (h : a < 2 ^ k) : bts k (fun i => a.testBit i = true) = a := by
  apply nat_ext
  intro i
  rw [bts_bit]
  constructor
  · exact fun e => e.2
  · intro e
    refine ⟨?_, e⟩
    rcases Nat.lt_or_ge i k with hk | hk
    · exact hk
    · have h2 : a < 2 ^ i := Nat.lt_of_lt_of_le h (Nat.pow_le_pow_right (by omega) hk)
      rw [Nat.testBit_lt_two_pow h2] at e
      exact absurd e (by decide)
theorem bts_0 {k : Nat} {c : Nat → Prop} : bts k c = 0 ↔ ∀ i, i < k → ¬ c i := by
  constructor
  · intro h i hi hc
    have := (bts_bit (k := k) (c := c) i).mpr ⟨hi, hc⟩
    rw [h, Nat.zero_testBit] at this
    exact absurd this (by decide)
  · intro h
    apply nat_ext
    intro i
    rw [bts_bit, Nat.zero_testBit]
    exact ⟨fun e => absurd e.2 (h i e.1), fun e => absurd e (by decide)⟩
theorem tb_lt {a k i : Nat} (h : a < 2 ^ k) (hb : a.testBit i = true) : i < k := by
  rcases Nat.lt_or_ge i k with hk | hk
  · exact hk
  · have h2 : a < 2 ^ i := Nat.lt_of_lt_of_le h (Nat.pow_le_pow_right (by omega) hk)
    rw [Nat.testBit_lt_two_pow h2] at hb
    exact absurd hb (by decide)
/-- how many bits -/
def popF : Nat → Nat → Nat
  | 0, _ => 0
  | k + 1, a => a % 2 + popF k (a / 2)
def pop (a : Nat) : Nat := popF 32 a
theorem cnt_sh {k : Nat} {c : Nat → Prop} : cnt (k + 1) c = @ite _ (c 0) (Classical.propDecidable _) 1 0 + cnt k (fun i => c (i + 1)) := by
  induction k with
  | zero =>
    show 0 + _ = _ + 0
    rw [Nat.zero_add, Nat.add_zero]
  | succ k ih =>
    show cnt (k + 1) c + _ = _ + (cnt k _ + _)
    rw [ih, Nat.add_assoc]
theorem popF_cnt {k : Nat} : ∀ a, popF k a = cnt k (fun i => a.testBit i = true) := by
  induction k with
  | zero => intro a; rfl
  | succ k ih =>
    intro a
    rw [cnt_sh]
    show a % 2 + popF k (a / 2) = _
    rw [ih (a / 2)]
    have e1 : cnt k (fun i => (a / 2).testBit i = true) = cnt k (fun i => a.testBit (i + 1) = true) := cnt_c (fun i _ => by rw [Nat.testBit_succ])
    rw [e1]
    have e2 : a.testBit 0 = decide (a % 2 = 1) := Nat.testBit_zero ..
    rcases Nat.mod_two_eq_zero_or_one a with h0 | h0
    · rw [if_neg (by rw [e2, h0]; decide), h0]
    · rw [if_pos (by rw [e2, h0]; decide), h0]
theorem pop_cnt (a : Nat) : pop a = cnt 32 (fun i => a.testBit i = true) := popF_cnt a
theorem cnt_ext {k m : Nat} {c : Nat → Prop} (h : k ≤ m) (h2 : ∀ i, k ≤ i → i < m → ¬ c i) : cnt m c = cnt k c := by
  have : ∀ j, k + j ≤ m → cnt (k + j) c = cnt k c := by
    intro j
    induction j with
    | zero => intro _; rfl
    | succ j ih =>
      intro hj
      rw [← Nat.add_assoc, cnt_f (h2 (k + j) (by omega) (by omega)), ih (by omega)]
  have e : k + (m - k) = m := by omega
  have := this (m - k) (by omega)
  rw [e] at this
  exact this
theorem pop_k {a k : Nat} (h : a < 2 ^ k) (hk : k ≤ 32) : pop a = cnt k (fun i => a.testBit i = true) := by
  rw [pop_cnt]
  refine cnt_ext hk (fun i h1 _ e => ?_)
  have := tb_lt h e
  omega
theorem pop_bts {k : Nat} {c : Nat → Prop} (hk : k ≤ 32) : pop (bts k c) = cnt k c := by
  rw [pop_k bts_lt hk]
  exact cnt_c (fun i hi => by rw [bts_bit]; exact ⟨fun e => e.2, fun e => ⟨hi, e⟩⟩)
theorem pop_le (a : Nat) : pop a ≤ 32 := by rw [pop_cnt]; exact cnt_le
/-- Java's own count, of a set of at most twelve -/
def swar (x0 : Int32) : Int32 :=
  let a := x0 - ((Int32.toUInt32 x0 >>> (Int32.toUInt32 (1 : Int32) &&& Int32.toUInt32 31)).toInt32 &&& (1431655765 : Int32))
  let b := (a &&& (858993459 : Int32)) + ((Int32.toUInt32 a >>> (Int32.toUInt32 (2 : Int32) &&& Int32.toUInt32 31)).toInt32 &&& (858993459 : Int32))
  let c := (b + (Int32.toUInt32 b >>> (Int32.toUInt32 (4 : Int32) &&& Int32.toUInt32 31)).toInt32) &&& (252645135 : Int32)
  let e := c + (Int32.toUInt32 c >>> (Int32.toUInt32 (8 : Int32) &&& Int32.toUInt32 31)).toInt32
  let f := e + (Int32.toUInt32 e >>> (Int32.toUInt32 (16 : Int32) &&& Int32.toUInt32 31)).toInt32
  f &&& (63 : Int32)
theorem v_swar (d : Nat) (g : mG) (x : Int32) : ev none d mm_J6_bitCount_0f7a4 0 [.int x] [] g = some (some (.int (swar x)), g) := b_J6_bitCount_0f7a4_0 d g x
theorem swar_64 : ∀ a, a < 64 → ∀ b, b < 64 → swar (nI (a * 64 + b)) = nI (pop (a * 64 + b)) := by decide +kernel
theorem swar_12 (a : Nat) (h : a < 4096) : swar (nI a) = nI (pop a) := by
  have e : a / 64 * 64 + a % 64 = a := by omega
  have := swar_64 (a / 64) (by omega) (a % 64) (by omega)
  rw [e] at this
  exact this
theorem v_bitCount (d : Nat) (g : mG) (a : Nat) (h : a < 4096) : ev none d mm_J6_bitCount_0f7a4 0 [.int (nI a)] [] g = some (some (.int (nI (pop a))), g) := by
  rw [v_swar, swar_12 a h]
/-- the lowest bit gone -/
theorem low_64 : ∀ a, a < 64 → ∀ b, b < 64 → 0 < a * 64 + b → pop ((a * 64 + b) &&& ((a * 64 + b) - 1)) + 1 = pop (a * 64 + b) := by decide +kernel
theorem low_12 (a : Nat) (h : a < 4096) (h0 : 0 < a) : pop (a &&& (a - 1)) + 1 = pop a := by
  have e : a / 64 * 64 + a % 64 = a := by omega
  have := low_64 (a / 64) (by omega) (a % 64) (by omega)
  rw [e] at this
  exact this h0
theorem v_bitsOf (d : Nat) (g : mG) (x0 : Int32) : ∀ n a m, pop a = n → a < 4096 → ev none d mm_X12_bitsOf 4 [.int x0, .int (nI m), .int (nI a)] [] g = some (some (.int (nI (m + pop a))), g) := by
  intro n
  induction n with
  | zero =>
    intro a m h ha
    have h0 : a = 0 := by
      rcases Nat.eq_zero_or_pos a with h1 | h1
      · exact h1
      · have := low_12 a ha h1
        omega
    subst h0
    rw [b_X12_bitsOf_4, m_if_pos nI_0, h]
    rfl
  | succ n ih =>
    intro a m h ha
    rcases Nat.eq_zero_or_pos a with h1 | h1
    · subst h1
      have e0 : pop 0 = 0 := by decide
      omega
    · have h2 := low_12 a ha h1
      have h3 : a &&& (a - 1) ≤ a := Nat.and_le_left
      have e1 : nI a - 1 = nI (a - 1) := by
        have := nI_pred (a - 1)
        rw [show a - 1 + 1 = a by omega] at this
        exact this
      rw [b_X12_bitsOf_4, m_if_neg (nI_ne0 h1 (by omega)), e1, t_and, nI_1, ih (a &&& (a - 1)) (m + 1) (by omega) (by omega)]
      rw [show m + 1 + pop (a &&& (a - 1)) = m + pop a by omega]
theorem v_bits (d : Nat) (g : mG) (a : Nat) (h : a < 4096) : ev none d mm_X12_bitsOf 0 [.int (nI a), .null, .null] [] g = some (some (.int (nI (pop a))), g) := by
  have := v_bitsOf d g (nI a) (pop a) a 0 rfl h
  rw [Nat.zero_add] at this
  rw [b_X12_bitsOf_0]
  exact this
theorem v_hasBit (d : Nat) (g : mG) (a i : Nat) (h : a < 2 ^ 31) (hi : i < 32) : ev none d mm_X11_hasBit 0 [.int (nI a), .int (nI i)] [] g = some (some (.int (b2 (a.testBit i = true))), g) := by
  rw [b_X11_hasBit_0, t_bit h hi, mi_b2, mi_tt]
theorem v_has (d : Nat) (g : mG) (a i : Nat) (h : a < 2 ^ 31) (hi : i < 32) : ev none d mm_X12_has 0 [.int (nI a), .int (nI i)] [] g = some (some (.int (b2 (a.testBit i = true))), g) := by
  rw [b_X12_has_0, t_bit h hi, mi_c b2_1, mi_tt]
