/-! OPERATIONS (9): promises -/
theorem neg_div {x c : Int32} {k m : Nat} (hc : c.toInt = (k : Int)) (hk : 0 < k) (hx : x < 0) (h : ix m (x / c)) (hm : m < 2 ^ 31) : x / c = 0 := by
  have h1 : x.toInt < 0 := by
    rw [Int32.lt_iff_toInt_lt] at hx
    exact hx
  have h0 := Int32.le_toInt x
  have e : x.toInt.tdiv k = -((-x.toInt).tdiv k) := by rw [Int.neg_tdiv, Int.neg_neg]
  have n1 : 0 ≤ (-x.toInt).tdiv k := Int.tdiv_nonneg (by omega) (by omega)
  have n2 : (-x.toInt).tdiv k ≤ -x.toInt := Int.tdiv_le_self _ (by omega)
  obtain ⟨j, hj, ej⟩ := h
  have e2 : (x / c).toInt = x.toInt.tdiv k := by
    rw [Int32.toInt_div, hc]
    exact Int.bmod_eq_of_le (by omega) (by omega)
  rw [ej, nI_toInt (by omega), e] at e2
  have : j = 0 := by omega
  rw [ej, this]
  rfl
theorem neg_dig {x c : Int32} {k m m2 : Nat} (hc : c.toInt = (k : Int)) (hk : 0 < k) (hx : x < 0) (hm : m < 2 ^ 31) (hm2 : m2 < 2 ^ 31) : ¬ (ix m (x / c) ∧ ix m2 (x - x / c * c)) := by
  intro ⟨h1, h2⟩
  rw [neg_div hc hk hx h1 hm, Int32.zero_mul, Int32.sub_zero] at h2
  exact ix_n0 h2 hm2 hx
theorem v_mayPromise {n : Nat} (d : Nat) (g : mG) (hn : n ≤ 6) (h : g.1 1 12 = nI n) (x1 x2 x3 x4 x5 : Int32) : ev none (d + 1) mm_X9_mayPromise 0 [.ref 1, .int x1, .int x2, .int x3, .int x4, .int x5] [] g = some (some (.int (b2 (ix n x1 ∧ ix n x2 ∧ ¬ x1 = x2 ∧ ix 25 x3 ∧ ix 10 x4 ∧ ix 100 x5))), g) := by
  rw [b_X9_mayPromise_0, v_hasPerson _ g _ n (by omega) h, mb_some, mp_some, b_X9_mayPromise_5, mi_b2, v_hasPerson _ g _ n (by omega) h, mb_some, mp_some, b_X9_mayPromise_13, mi_b2, v_isPlace, mb_some, mp_some, b_X9_mayPromise_25, mi_b2, mi_ft, mi_f2, mi_f2, mi_f2, mi_t2, mi_f2, mi_t2, mi_t2]
  refine congrArg (fun z => some (some (Value.int z), g)) (b2_c ?_)
  rw [← ix_le (n := 9) (by omega), ← ix_le (n := 99) (by omega)]
  constructor
  · exact fun ⟨a, b, c, e, f, i, j, k⟩ => ⟨a, b, c, e, ⟨f, i⟩, j, k⟩
  · exact fun ⟨a, b, c, e, ⟨f, i⟩, j, k⟩ => ⟨a, b, c, e, f, i, j, k⟩
theorem v_areTwo {n : Nat} (d : Nat) (g : mG) (hn : n ≤ 6) (h : g.1 55 1 = nI n) (x1 x2 : Int32) : ev none (d + 2) mm_X12_areTwo 0 [.ref 55, .int x1, .int x2] [] g = some (some (.int (b2 (ix n x1 ∧ ix n x2 ∧ ¬ x1 = x2))), g) := by
  rw [b_X12_areTwo_0, v_isOne _ g _ n (by omega) h, mb_some, mp_some, b_X12_areTwo_5, mi_b2, v_isOne _ g _ n (by omega) h, mb_some, mp_some, b_X12_areTwo_13, mi_b2, mi_ft, mi_t2, mi_t2]
/-- a promise more: class, model -/
def aW (o cc ck : Nat) (q : Nat) (a b c w y t : Int32) (g : mG) : mG := m_s1 (m_s1 (m_s1 (m_s1 (m_s1 (m_s1 (m_s1 g o q a) (o + 1) q b) (o + 2) q c) (o + 3) q w) (o + 4) q y) (o + 5) q t) cc ck (nI (q + 1))
theorem v_addX {p : Nat} (d : Nat) (g : mG) (h : g.1 1 13 = nI p) (hp : p < 12) (x1 x2 x3 x4 x5 : Int32) : ev none d mm_X9_addPromise 0 [.ref 1, .int x1, .int x2, .int x3, .int x4, .int x5] [] g = some (some (.int (nI p)), aW 4 1 13 p x1 x2 x3 x4 (g.1 1 17) x5 g) := by
  have j1 : ∀ x : Option (Option Value × mG), m_in (nI p) 12 x = x := fun x => mi_nI hp (by omega)
  rw [b_X9_addPromise_0, h, m_if_pos (show nI p < 12 from nI_lt (b := 12) hp (by omega)), j1, j1, j1, j1, j1, j1, pk_cl p (hx := rfl), nI_1, nI_pred]
  rfl
theorem v_addM {p : Nat} (d : Nat) (g : mG) (h : g.1 55 4 = nI p) (hp : p < 12) (x1 x2 x3 x4 x5 : Int32) : ev none d mm_X12_addPromise 0 [.ref 55, .int x1, .int x2, .int x3, .int x4, .int x5, .null] [] g = some (some (.int (nI p)), aW 58 55 4 p x1 x2 x3 x4 (g.1 55 14) x5 g) := by
  have j1 : ∀ x : Option (Option Value × mG), m_in (nI p) 12 x = x := fun x => mi_nI hp (by omega)
  rw [b_X12_addPromise_0, h, j1, j1, j1, j1, j1, j1, pk_cl p (hx := rfl), nI_1]
  rfl
/-- so many promises more -/
def PS (o cc ck : Nat) (y : Int32) (f : Nat → Int32) (i0 p K : Nat) (g g' : mG) : Prop := g'.1 cc ck = nI (p + K) ∧ (∀ q, g'.1 o q = if p ≤ q ∧ q < p + K then f (i0 + 5 * (q - p)) else g.1 o q) ∧ (∀ q, g'.1 (o + 1) q = if p ≤ q ∧ q < p + K then f (i0 + 5 * (q - p) + 1) else g.1 (o + 1) q) ∧ (∀ q, g'.1 (o + 2) q = if p ≤ q ∧ q < p + K then f (i0 + 5 * (q - p) + 2) else g.1 (o + 2) q) ∧ (∀ q, g'.1 (o + 3) q = if p ≤ q ∧ q < p + K then f (i0 + 5 * (q - p) + 3) else g.1 (o + 3) q) ∧ (∀ q, g'.1 (o + 4) q = if p ≤ q ∧ q < p + K then y else g.1 (o + 4) q) ∧ (∀ q, g'.1 (o + 5) q = if p ≤ q ∧ q < p + K then f (i0 + 5 * (q - p) + 4) else g.1 (o + 5) q) ∧ (∀ c k, ¬ (o ≤ c ∧ c ≤ o + 5) → ¬ (c = cc ∧ k = ck) → g'.1 c k = g.1 c k) ∧ g'.2 = g.2
theorem PS_0 {o cc ck : Nat} {y : Int32} {f : Nat → Int32} {i0 p : Nat} {g : mG} (h : g.1 cc ck = nI p) : PS o cc ck y f i0 p 0 g g := by
  refine ⟨h, fun q => ?_, fun q => ?_, fun q => ?_, fun q => ?_, fun q => ?_, fun q => ?_, fun _ _ _ _ => rfl, rfl⟩ <;> rw [if_neg (by omega)]
theorem PS_if {f : Nat → Int32} {v x : Int32} {p K q : Nat} {F : Nat → Int32} (hv : F K = v) : (if q = p + K then v else if p ≤ q ∧ q < p + K then F (q - p) else x) = if p ≤ q ∧ q < p + (K + 1) then F (q - p) else x := by
  by_cases c : q = p + K
  · rw [if_pos c, if_pos (by omega), ← hv, show q - p = K by omega]
  · rw [if_neg c]
    by_cases c2 : p ≤ q ∧ q < p + K
    · rw [if_pos c2, if_pos (by omega)]
    · rw [if_neg c2, if_neg (by omega)]
theorem PS_s {o cc ck : Nat} {y : Int32} {f : Nat → Int32} {i0 p K : Nat} {g g1 : mG} (ho : ¬ (o ≤ cc ∧ cc ≤ o + 5)) (h : PS o cc ck y f i0 p K g g1) : PS o cc ck y f i0 p (K + 1) g (aW o cc ck (p + K) (f (i0 + 5 * K)) (f (i0 + 5 * K + 1)) (f (i0 + 5 * K + 2)) (f (i0 + 5 * K + 3)) y (f (i0 + 5 * K + 4)) g1) := by
  obtain ⟨h0, h1, h2, h3, h4, h5, h6, h7, h8⟩ := h
  unfold aW
  refine ⟨s1_at, fun q => ?_, fun q => ?_, fun q => ?_, fun q => ?_, fun q => ?_, fun q => ?_, fun c k c1 c2 => ?_, h8⟩
  · rw [s1_ne (by omega), s1_ne (by omega), s1_ne (by omega), s1_ne (by omega), s1_ne (by omega), s1_ne (by omega), s1_r, if_pos rfl, h1]
    exact PS_if (f := f) (F := fun z => f (i0 + 5 * z)) rfl
  · rw [s1_ne (by omega), s1_ne (by omega), s1_ne (by omega), s1_ne (by omega), s1_ne (by omega), s1_r, if_pos rfl, s1_ne (by omega), h2]
    exact PS_if (f := f) (F := fun z => f (i0 + 5 * z + 1)) rfl
  · rw [s1_ne (by omega), s1_ne (by omega), s1_ne (by omega), s1_ne (by omega), s1_r, if_pos rfl, s1_ne (by omega), s1_ne (by omega), h3]
    exact PS_if (f := f) (F := fun z => f (i0 + 5 * z + 2)) rfl
  · rw [s1_ne (by omega), s1_ne (by omega), s1_ne (by omega), s1_r, if_pos rfl, s1_ne (by omega), s1_ne (by omega), s1_ne (by omega), h4]
    exact PS_if (f := f) (F := fun z => f (i0 + 5 * z + 3)) rfl
  · rw [s1_ne (by omega), s1_ne (by omega), s1_r, if_pos rfl, s1_ne (by omega), s1_ne (by omega), s1_ne (by omega), s1_ne (by omega), h5]
    exact PS_if (f := f) (F := fun _ => y) rfl
  · rw [s1_ne (by omega), s1_r, if_pos rfl, s1_ne (by omega), s1_ne (by omega), s1_ne (by omega), s1_ne (by omega), s1_ne (by omega), h6]
    exact PS_if (f := f) (F := fun z => f (i0 + 5 * z + 4)) rfl
  · rw [s1_r]
    by_cases e : c = cc
    · rw [if_pos e, if_neg (fun e2 => c2 ⟨e, e2⟩), s1_ne (by omega), s1_ne (by omega), s1_ne (by omega), s1_ne (by omega), s1_ne (by omega), s1_ne (by omega)]
      exact h7 c k c1 c2
    · rw [if_neg e, s1_ne (by omega), s1_ne (by omega), s1_ne (by omega), s1_ne (by omega), s1_ne (by omega), s1_ne (by omega)]
      exact h7 c k c1 c2
/-- such a promise may be made -/
def okP (n p L i0 : Nat) (f : Nat → Int32) (k : Nat) : Prop := i0 + 5 * k + 5 ≤ L ∧ p + k < 12 ∧ ix n (f (i0 + 5 * k)) ∧ ix n (f (i0 + 5 * k + 1)) ∧ ¬ f (i0 + 5 * k) = f (i0 + 5 * k + 1) ∧ ix 25 (f (i0 + 5 * k + 2)) ∧ ix 10 (f (i0 + 5 * k + 3)) ∧ ix 100 (f (i0 + 5 * k + 4))
theorem IV_PS {n p nb K L i0 : Nat} {W : mW} {f : Nat → Int32} {g g1 g2 : mG} (hIV : IV n p nb W g) (hK : ∀ k, k < K → okP n p L i0 f k) (hX : PS 4 1 13 (g.1 1 17) f i0 p K g g1) (hM : PS 58 55 4 (g.1 55 14) f i0 p K g1 g2) : IV n (p + K) nb W g2 := by
  obtain ⟨⟨v1, v2, v3, v4, v5, v6, v7, v8, v9, v10⟩, ⟨r1, r2, r3, r4, r5, r6, r7, r8⟩, hC, hP, hL, hG, hB, hS⟩ := hIV
  obtain ⟨x0, x1, x2, x3, x4, x5, x6, x7, x8⟩ := hX
  obtain ⟨m0, m1, m2, m3, m4, m5, m6, m7, m8⟩ := hM
  have hpK : p + K ≤ 12 := by
    by_cases c : K = 0
    · omega
    · have := (hK (K - 1) (by omega)).2.1
      omega
  have a : ∀ c k, c < 55 → g2.1 c k = g1.1 c k := fun c k hc => m7 c k (by omega) (by omega)
  have b : ∀ c k, 55 ≤ c → g1.1 c k = g.1 c k := fun c k hc => x7 c k (by omega) (by omega)
  have e : ∀ c k, ¬ (4 ≤ c ∧ c ≤ 9) → ¬ (58 ≤ c ∧ c ≤ 63) → ¬ (c = 1 ∧ k = 13) → ¬ (c = 55 ∧ k = 4) → g2.1 c k = g.1 c k := fun c k c1 c2 c3 c4 => (m7 c k c2 c4).trans (x7 c k c1 c3)
  have e2 : g2.2 = g.2 := m8.trans x8
  refine ⟨⟨v1, hpK, (e 55 1 (by omega) (by omega) (by omega) (by omega)).trans v3, m0, fun i hi => ?_, fun i hi => ?_, fun i hi => ?_, fun i h1 h2 => ?_, ?_, ?_⟩, ⟨?_, ?_, fun i hi => ?_, fun i hi => ?_, ?_, ?_, ?_, ?_⟩, ?_, P_t (fun c k h => e c k (by unfold tP at h; omega) (by unfold tP at h; omega) (by unfold tP at h; omega) (by unfold tP at h; omega)) hP, L_t (fun c k h => e c k (by unfold tL at h; omega) (by unfold tL at h; omega) (by unfold tL at h; omega) (by unfold tL at h; omega)) hL, ?_, B_t (fun c k h => e c k (by unfold tB at h; omega) (by unfold tB at h; omega) (by unfold tB at h; omega) (by unfold tB at h; omega)) hB, S_t (fun c k h => e c k (by unfold tS at h; omega) (by unfold tS at h; omega) (by unfold tS at h; omega) (by unfold tS at h; omega)) (fun c k _ => by rw [e2]) hS⟩
  · rw [e 56 i (by omega) (by omega) (by omega) (by omega), e 57 i (by omega) (by omega) (by omega) (by omega)]
    exact v5 i hi
  · rw [m1 i, m2 i, m3 i, m4 i, m5 i, m6 i]
    by_cases c : p ≤ i ∧ i < p + K
    · rw [if_pos c, if_pos c, if_pos c, if_pos c, if_pos c, if_pos c]
      obtain ⟨_, _, k1, k2, k3, k4, k5, k6⟩ := hK (i - p) (by omega)
      exact ⟨k1, k2, k4, k5, v10, k6⟩
    · rw [if_neg c, if_neg c, if_neg c, if_neg c, if_neg c, if_neg c, b 58 i (by omega), b (58 + 1) i (by omega), b (58 + 2) i (by omega), b (58 + 3) i (by omega), b (58 + 4) i (by omega), b (58 + 5) i (by omega)]
      exact v6 i (by omega)
  · rw [e 64 i (by omega) (by omega) (by omega) (by omega), e 65 i (by omega) (by omega) (by omega) (by omega)]
    exact v7 i hi
  · rw [e 64 i (by omega) (by omega) (by omega) (by omega), e 65 i (by omega) (by omega) (by omega) (by omega)]
    exact v8 i (by omega) h2
  · rw [e 55 13 (by omega) (by omega) (by omega) (by omega)]; exact v9
  · rw [e 55 14 (by omega) (by omega) (by omega) (by omega)]; exact v10
  · rw [e 1 12 (by omega) (by omega) (by omega) (by omega)]; exact r1
  · rw [a 1 13 (by omega)]; exact x0
  · rw [e 2 i (by omega) (by omega) (by omega) (by omega), e 3 i (by omega) (by omega) (by omega) (by omega), e 10 i (by omega) (by omega) (by omega) (by omega), e 56 i (by omega) (by omega) (by omega) (by omega), e 57 i (by omega) (by omega) (by omega) (by omega), e 66 i (by omega) (by omega) (by omega) (by omega)]
    exact r3 i hi
  · have q1 := x1 i
    have q2 := x2 i
    have q3 := x3 i
    have q4 := x4 i
    have q5 := x5 i
    have q6 := x6 i
    have n1 := m1 i
    have n2 := m2 i
    have n3 := m3 i
    have n4 := m4 i
    have n5 := m5 i
    have n6 := m6 i
    rw [b 58 i (by omega)] at n1
    rw [b (58 + 1) i (by omega)] at n2
    rw [b (58 + 2) i (by omega)] at n3
    rw [b (58 + 3) i (by omega)] at n4
    rw [b (58 + 4) i (by omega)] at n5
    rw [b (58 + 5) i (by omega)] at n6
    obtain ⟨t1, t2, t3, t4, t5, t6⟩ := r4 i hi
    refine ⟨(a 4 i (by omega)).trans (q1.trans (Eq.trans ?_ n1.symm)), (a 5 i (by omega)).trans (q2.trans (Eq.trans ?_ n2.symm)), (a 6 i (by omega)).trans (q3.trans (Eq.trans ?_ n3.symm)), (a 7 i (by omega)).trans (q4.trans (Eq.trans ?_ n4.symm)), (a 8 i (by omega)).trans (q5.trans (Eq.trans ?_ n5.symm)), (a 9 i (by omega)).trans (q6.trans (Eq.trans ?_ n6.symm))⟩
    · exact congrArg (fun z => if p ≤ i ∧ i < p + K then f (i0 + 5 * (i - p)) else z) t1
    · exact congrArg (fun z => if p ≤ i ∧ i < p + K then f (i0 + 5 * (i - p) + 1) else z) t2
    · exact congrArg (fun z => if p ≤ i ∧ i < p + K then f (i0 + 5 * (i - p) + 2) else z) t3
    · exact congrArg (fun z => if p ≤ i ∧ i < p + K then f (i0 + 5 * (i - p) + 3) else z) t4
    · rw [r8]
      exact congrArg (fun z => if p ≤ i ∧ i < p + K then g.1 55 14 else z) t5
    · exact congrArg (fun z => if p ≤ i ∧ i < p + K then f (i0 + 5 * (i - p) + 4) else z) t6
  · have e4 : g2.1 64 = g.1 64 := funext fun k => e 64 k (by omega) (by omega) (by omega) (by omega)
    rw [e 1 14 (by omega) (by omega) (by omega) (by omega), e4]; exact r5
  · have e4 : g2.1 65 = g.1 65 := funext fun k => e 65 k (by omega) (by omega) (by omega) (by omega)
    rw [e 1 15 (by omega) (by omega) (by omega) (by omega), e4]; exact r6
  · rw [e 1 16 (by omega) (by omega) (by omega) (by omega), e 55 13 (by omega) (by omega) (by omega) (by omega)]; exact r7
  · rw [e 1 17 (by omega) (by omega) (by omega) (by omega), e 55 14 (by omega) (by omega) (by omega) (by omega)]; exact r8
  · exact C_mono (C_t (fun c k h => e c k (by unfold tC at h; omega) (by unfold tC at h; omega) (by unfold tC at h; omega) (by unfold tC at h; omega)) hC) (Nat.le_refl _) (by omega)
  · exact G_mono (G_t (fun c k h => e c k (by unfold tG at h; omega) (by unfold tG at h; omega) (by unfold tG at h; omega) (by unfold tG at h; omega)) hG) (Nat.le_refl _) (by omega)
theorem s1_comm {g : mG} {a k b j : Nat} {x y : Int32} (h : a ≠ b) : m_s1 (m_s1 g a k x) b j y = m_s1 (m_s1 g b j y) a k x := by
  refine Prod.ext (funext fun c => funext fun m => ?_) rfl
  rw [s1_r, s1_r, s1_r, s1_r]
  by_cases c1 : c = b
  · have c2 : ¬ c = a := by omega
    simp only [if_pos c1, if_neg c2]
  · by_cases c2 : c = a
    · simp only [if_pos c2, if_neg c1]
    · simp only [if_neg c2, if_neg c1]
theorem aW_comm {o cc ck q : Nat} {a b c w y t : Int32} {g : mG} {e k : Nat} {x : Int32} (h1 : ¬ (o ≤ e ∧ e ≤ o + 5)) (h2 : e ≠ cc) : aW o cc ck q a b c w y t (m_s1 g e k x) = m_s1 (aW o cc ck q a b c w y t g) e k x := by
  unfold aW
  rw [s1_comm (a := e) (b := o) (by omega), s1_comm (a := e) (b := o + 1) (by omega), s1_comm (a := e) (b := o + 2) (by omega), s1_comm (a := e) (b := o + 3) (by omega), s1_comm (a := e) (b := o + 4) (by omega), s1_comm (a := e) (b := o + 5) (by omega), s1_comm (a := e) (b := cc) h2]
theorem IV_led {n p nb : Nat} {W : mW} {g : mG} (h : IV n p nb W g) (j : Nat) (hj : j < 6) : IV n p nb W (m_s1 (m_s1 g 10 j (g.1 10 j + 1)) 66 j (g.1 66 j + 1)) := by
  obtain ⟨hV, ⟨r1, r2, r3, r4, r5, r6, r7, r8⟩, hC, hP, hL, hG, hB, hS⟩ := h
  exact ⟨hV, ⟨r1, r2, fun i hi => ⟨(r3 i hi).1, (r3 i hi).2.1, upd_eq (by rw [(r3 j hj).2.2]) (r3 i hi).2.2⟩, r4, r5, r6, r7, r8⟩, hC, hP, hL, hG, hB, S_eq hS (fun _ => ⟨rfl, rfl, rfl, rfl, rfl, rfl⟩) rfl rfl rfl⟩
theorem dig_100 {x : Int32} : (ix 10 (x / 100) ∧ ix 100 (x - x / 100 * 100)) ↔ ix 1000 x := by
  by_cases c : x < 0
  · constructor
    · exact fun h => absurd h (neg_dig (k := 100) (by decide) (by omega) c (by omega) (by omega))
    · exact fun h => absurd c (ix_n0 h (by omega))
  · obtain ⟨j, hj, e⟩ := nI_of c
    subst e
    have e1 : nI j / 100 = nI (j / 100) := pk_div (d := 100) hj (by omega) (by omega)
    have e2 : nI j - nI j / 100 * 100 = nI (j % 100) := pk_rem (d := 100) hj (by omega) (by omega)
    rw [e2, e1]
    constructor
    · intro ⟨⟨a, ha, ea⟩, _⟩
      have := (nI_eq (by omega) (by omega)).mp ea
      exact ⟨j, by omega, rfl⟩
    · intro ⟨a, ha, ea⟩
      have := (nI_eq (by omega) (by omega)).mp ea
      exact ⟨⟨j / 100, by omega, rfl⟩, ⟨j % 100, by omega, rfl⟩⟩
theorem o_promise : op_promise Inv 1299 := by
  intro g hI a1 a2
  have hI0 := hI
  obtain ⟨n', p', W', hX', hM'⟩ := inv_C hI
  clear hX' hM'
  obtain ⟨n, p, nb, W, hIV⟩ := hI
  have hIV0 : IV n p nb W g := hIV
  obtain ⟨hV, hR, hC, hP, hL, hG, hB, hS⟩ := hIV
  have hn : n ≤ 6 := hV.1
  have hp : p ≤ 12 := hV.2.1
  have i0 : vp_in 0 6 := vp6 (k := 0) (by omega)
  have hM0 : ∀ g1 : mG, g1.1 55 1 = nI n → ev none 1299 mm_X12_promise 0 [.ref 55, .int a1, .int a2] [] g1 = m_if (a1 < 0) (some (some (.int (-1)), g1)) (m_if (ix n (a1 / 10) ∧ ix n (a1 - a1 / 10 * 10) ∧ ¬ a1 / 10 = a1 - a1 / 10 * 10) (m_if (ix 1000 a2) (ev none 1299 mm_X12_promise 27 [.ref 55, .int a1, .int a2] [.int 1] g1) (some (some (.int (-1)), g1))) (some (some (.int (-1)), g1))) := by
    intro g1 h1
    rw [b_X12_promise_0, v_areTwo _ _ hn h1, mb_some, mp_some, b_X12_promise_16, mi_b2, v_in _ _ a2 999 1000 (by omega) rfl, mb_some, mp_some]
    by_cases c : ix 1000 a2
    · rw [b2_t c, m_if_pos c]
    · rw [b2_f c, m_if_neg c, b_X12_promise_27, m_if_pos rfl]
  have hX0 : ev none 1299 mm_X11_promise 0 [.ref 0, .int a1, .int a2, .null, .null, .null, .null, .null] [] g = _ := b_X11_promise_0 1298 g a1 a2
  rw [v_hasPerson _ g _ n (by omega) hR.1, mb_some, mp_some, b_X11_promise_31, mi_b2] at hX0
  by_cases h1 : ix n (a1 / 10)
  · have in6 := ix_cl (ix_mono h1 hn) (by omega)
    have ipl : ix 25 (g.1 2 (Int32.toNatClampNeg (a1 / 10))) := by
      rw [(hR.2.2.1 _ in6.1).1]
      exact (hV.2.2.2.2.1 _ (ix_cl h1 (by omega)).1).1
    rw [m_if_pos h1, mi_in (ix_in (ix_mono h1 hn) (by omega)), v_mayPromise _ _ hn hR.1, mb_some, mp_some, b_X11_promise_57, mi_b2] at hX0
    by_cases h2 : ix n (a1 / 10) ∧ ix n (a1 - a1 / 10 * 10) ∧ ¬ a1 / 10 = a1 - a1 / 10 * 10 ∧ ix 25 (g.1 2 (Int32.toNatClampNeg (a1 / 10))) ∧ ix 10 (a2 / 100) ∧ ix 100 (a2 - a2 / 100 * 100)
    · have h3 : ¬ a1 < 0 := fun c => neg_dig (k := 10) (by decide) (by omega) c (by omega) (by omega) ⟨h2.1, h2.2.1⟩
      have h4 : ix 1000 a2 := dig_100.mp h2.2.2.2.2
      rw [m_if_pos h2, mi_in (ix_in (ix_mono h1 hn) (by omega))] at hX0
      by_cases c : p = 12
      · subst c
        have e13 : ev none 1298 mm_X9_addPromise 0 [.ref 1, .int (a1 / 10), .int (a1 - a1 / 10 * 10), .int (g.1 2 (Int32.toNatClampNeg (a1 / 10))), .int (a2 / 100), .int (a2 - a2 / 100 * 100)] [] g = some (some (.int (-3)), g) := by
          rw [b_X9_addPromise_0, hR.2.1, m_if_neg (show ¬ nI 12 < 12 by decide)]
        rw [e13, mb_some, mp_some, b_X11_promise_85, m_if_pos (by decide)] at hX0
        refine op_bad (-3) hI0 hX0 ?_
        rw [hM0 g hV.2.2.1, m_if_neg h3, m_if_pos ⟨h2.1, h2.2.1, h2.2.2.1⟩, m_if_pos h4, b_X12_promise_27, m_if_neg (by decide), hV.2.2.2.1, m_if_pos (show nI 12 = 12 from rfl)]
      · obtain ⟨y1, y2, y3, y4, y5, y6⟩ := h2
        generalize hma : a1 / 10 = ma at *
        generalize hta : a1 - ma * 10 = ta at *
        generalize hpl : g.1 2 (Int32.toNatClampNeg ma) = pl at *
        generalize hwe : a2 / 100 = we at *
        generalize hti : a2 - we * 100 = ti at *
        rw [v_addX _ _ hR.2.1 (by omega), mb_some, mp_some, b_X11_promise_85, m_if_neg (nI_pos (by omega)), mi_in i0, mi_in i0] at hX0
        have hpl' : g.1 56 (Int32.toNatClampNeg ma) = pl := by rw [← hpl, (hR.2.2.1 _ in6.1).1]
        have s10 : (aW 4 1 13 p ma ta pl we (g.1 1 17) ti g).1 10 (Int32.toNatClampNeg 0) = g.1 10 0 := rfl
        rw [s10] at hX0
        have Xs : ∀ c k, 55 ≤ c → (m_s1 (aW 4 1 13 p ma ta pl we (g.1 1 17) ti g) 10 0 (g.1 10 0 + 1)).1 c k = g.1 c k := fun c k hc => by
          unfold aW
          rw [s1_ne (by omega), s1_ne (by omega), s1_ne (by omega), s1_ne (by omega), s1_ne (by omega), s1_ne (by omega), s1_ne (by omega), s1_ne (by omega)]
        refine ⟨_, _, aW 58 55 4 p ma ta pl we (g.1 55 14) ti (m_s1 (m_s1 (aW 4 1 13 p ma ta pl we (g.1 1 17) ti g) 10 0 (g.1 10 0 + 1)) 66 0 (g.1 66 0 + 1)), hX0, ?_, ?_⟩
        · have cp : ¬ nI p = 12 := fun e => by
            have := (nI_eq (a := p) (b := 12) (by omega) (by omega)).mp e
            omega
          have q4 : (m_s1 (aW 4 1 13 p ma ta pl we (g.1 1 17) ti g) 10 0 (g.1 10 0 + 1)).1 55 4 = nI p := (Xs 55 4 (by omega)).trans hV.2.2.2.1
          have q56 : (m_s1 (aW 4 1 13 p ma ta pl we (g.1 1 17) ti g) 10 0 (g.1 10 0 + 1)).1 56 (Int32.toNatClampNeg ma) = pl := (Xs 56 _ (by omega)).trans hpl'
          have q66 : (m_s1 (aW 4 1 13 p ma ta pl we (g.1 1 17) ti g) 10 0 (g.1 10 0 + 1)).1 66 (Int32.toNatClampNeg 0) = g.1 66 0 := Xs 66 0 (by omega)
          refine (hM0 _ ((Xs 55 1 (by omega)).trans hV.2.2.1)).trans ?_
          have h1' : ix 6 (a1 / 10) := by rw [hma]; exact ix_mono h1 hn
          rw [m_if_neg h3, m_if_pos ⟨y1, y2, y3⟩, m_if_pos h4, b_X12_promise_27, m_if_neg (by decide), q4, m_if_neg cp, mi_in i0, mi_in i0, hma, mi_in (ix_in (ix_mono h1 hn) (by omega)), hta, hwe, hti, q56, q66, v_addM _ _ ((s1_ne (by omega)).trans q4) (by omega), mb_some, mp_some, b_X12_promise_83]
          rfl
        · have hl := IV_led hIV0 0 (by omega)
          generalize hf : (fun j => if j = 0 then ma else if j = 1 then ta else if j = 2 then pl else if j = 3 then we else ti) = f
          have f0 : f 0 = ma ∧ f 1 = ta ∧ f 2 = pl ∧ f 3 = we ∧ f 4 = ti := by
            rw [← hf]
            exact ⟨rfl, rfl, rfl, rfl, rfl⟩
          have P1 : PS 4 1 13 (g.1 1 17) f 0 p 0 (m_s1 (m_s1 g 10 0 (g.1 10 0 + 1)) 66 0 (g.1 66 0 + 1)) (m_s1 (m_s1 g 10 0 (g.1 10 0 + 1)) 66 0 (g.1 66 0 + 1)) := PS_0 hR.2.1
          have P2 := PS_s (by omega) P1
          rw [show p + 0 = p from rfl, show 0 + 5 * 0 = 0 from rfl, show 0 + 1 = 1 from rfl, show 0 + 2 = 2 from rfl, show 0 + 3 = 3 from rfl, show 0 + 4 = 4 from rfl, f0.1, f0.2.1, f0.2.2.1, f0.2.2.2.1, f0.2.2.2.2] at P2
          have w4 : (aW 4 1 13 p ma ta pl we (g.1 1 17) ti (m_s1 (m_s1 g 10 0 (g.1 10 0 + 1)) 66 0 (g.1 66 0 + 1))).1 55 4 = nI p := hV.2.2.2.1
          have P3 := PS_s (by omega) (PS_0 (o := 58) (cc := 55) (ck := 4) (y := g.1 55 14) (f := f) (i0 := 0) (p := p) w4)
          rw [show p + 0 = p from rfl, show 0 + 5 * 0 = 0 from rfl, show 0 + 1 = 1 from rfl, show 0 + 2 = 2 from rfl, show 0 + 3 = 3 from rfl, show 0 + 4 = 4 from rfl, f0.1, f0.2.1, f0.2.2.1, f0.2.2.2.1, f0.2.2.2.2] at P3
          have ok : ∀ k, k < 1 → okP n p 5 0 f k := by
            intro k hk
            have : k = 0 := by omega
            subst this
            refine ⟨by omega, by omega, ?_⟩
            rw [show 0 + 5 * 0 = 0 from rfl, show 0 + 1 = 1 from rfl, show 0 + 2 = 2 from rfl, show 0 + 3 = 3 from rfl, show 0 + 4 = 4 from rfl, f0.1, f0.2.1, f0.2.2.1, f0.2.2.2.1, f0.2.2.2.2]
            exact ⟨y1, y2, y3, y4, y5, y6⟩
          have fin := IV_PS hl ok P2 P3
          rw [aW_comm (o := 4) (by omega) (by omega), aW_comm (o := 4) (by omega) (by omega)] at fin
          exact ⟨n, p + 1, nb, W, fin⟩
    · rw [m_if_neg h2] at hX0
      refine op_bad (-1) hI0 hX0 ?_
      rw [hM0 g hV.2.2.1]
      by_cases c : a1 < 0
      · rw [m_if_pos c]
      · rw [m_if_neg c]
        by_cases c2 : ix n (a1 / 10) ∧ ix n (a1 - a1 / 10 * 10) ∧ ¬ a1 / 10 = a1 - a1 / 10 * 10
        · rw [m_if_pos c2, m_if_neg (fun c3 => h2 ⟨c2.1, c2.2.1, c2.2.2, ipl, dig_100.mpr c3⟩)]
        · rw [m_if_neg c2]
  · rw [m_if_neg h1] at hX0
    refine op_bad (-1) hI0 hX0 ?_
    rw [hM0 g hV.2.2.1]
    by_cases c : a1 < 0
    · rw [m_if_pos c]
    · rw [m_if_neg c, m_if_neg (fun c2 => h1 c2.1)]
theorem v_number {s : Nat} (hs : s < 6) (d : Nat) (g : mG) {L j : Nat} (hL : L ≤ 60) (h : g.1 (43 + 2 * s) 3 = nI L) (hj : j < L) : ev none d mm_X7_number 0 [.ref (43 + 2 * s), .int (nI j)] [] g = some (some (.int (Int64.toInt32 (g.2 (44 + 2 * s) j))), g) := by
  rw [b_X7_number_0 (isSh6 hs), h, m_if_neg (nI_pos (by omega)), m_if_pos (nI_lt hj (by omega)), mi_nI (by omega) (by omega), pk_cl j (hx := rfl)]
theorem lg_neg {m : Nat} (hm : m < 2 ^ 31) : ¬ lg_cmp (lN m) 0 < 0 := by
  rw [lg_cmp_lt]
  exact fun c => absurd ((lN_lt (a := m) (b := 0) hm (by omega)).mp c) (by omega)
theorem x_promises {n p nb L i0 N K s : Nat} {W : mW} {f : Nat → Int32} {g : mG} (hIV : IV n p nb W g) (hs : s < 6) (hL : L ≤ 60) (h3 : g.1 (43 + 2 * s) 3 = nI L) (hf : ∀ j, j < L → Int64.toInt32 (g.2 (44 + 2 * s) j) = f j) (hN : N ≤ 12) (hi : i0 < L) (hKN : K ≤ N) (hK : ∀ k, k < K → okP n p L i0 f k) (hE : K = N ∨ ¬ okP n p L i0 f K) (d : Nat) : ∀ r k gk, k + r = K → PS 4 1 13 (g.1 1 17) f i0 p k g gk → ∃ gK, ev none (d + 3) mm_X11_promisesFrom 3 [.ref 0, .ref (43 + 2 * s), .int (nI i0), .int (nI N), .int (nI k)] [] gk = some (some (.int (nI K)), gK) ∧ PS 4 1 13 (g.1 1 17) f i0 p K g gK := by
  obtain ⟨hV, hR, hC, hP, hL', hG, hB, hS⟩ := hIV
  have hn : n ≤ 6 := hV.1
  have hp : p ≤ 12 := hV.2.1
  have five : ∀ (k : Nat) (gk : mG), k ≤ 12 → gk.1 (43 + 2 * s) 3 = nI L → ev none (d + 2) mm_X7_hasFive 0 [.ref (43 + 2 * s), .int (nI i0), .int (nI k)] [] gk = some (some (.int (b2 (i0 + 5 * k + 5 ≤ L))), gk) := by
    intro k gk hk h3'
    have e : nI i0 + 5 * nI k + 5 = nI (i0 + 5 * k + 5) := by
      rw [show (5 : Int32) = nI 5 from rfl, pk_mul, nI_add, nI_add]
    rw [b_X7_hasFive_0 (isSh6 hs), h3', m_if_neg (nI_pos (by omega)), m_if_pos (nI_lt hi (by omega)), e, mi_ft]
    refine congrArg (fun z => some (some (Value.int z), gk)) (b2_c ?_)
    rw [nI_ltI (by omega) (by omega)]
    omega
  have pf : ∀ (k : Nat) (gk : mG), i0 + 5 * k + 5 ≤ L → gk.1 1 12 = nI n → gk.1 (43 + 2 * s) 3 = nI L → gk.2 = g.2 → ev none (d + 2) mm_X11_promiseFrom 0 [.ref 0, .ref (43 + 2 * s), .int (nI i0 + 5 * nI k), .null, .null, .null, .null, .null] [] gk = m_if (ix n (f (i0 + 5 * k)) ∧ ix n (f (i0 + 5 * k + 1)) ∧ ¬ f (i0 + 5 * k) = f (i0 + 5 * k + 1) ∧ ix 25 (f (i0 + 5 * k + 2)) ∧ ix 10 (f (i0 + 5 * k + 3)) ∧ ix 100 (f (i0 + 5 * k + 4))) (m_bnd (ev none (d + 1) mm_X9_addPromise 0 [.ref 1, .int (f (i0 + 5 * k)), .int (f (i0 + 5 * k + 1)), .int (f (i0 + 5 * k + 2)), .int (f (i0 + 5 * k + 3)), .int (f (i0 + 5 * k + 4))] [] gk) (fun r g2 => ev none (d + 2) mm_X11_promiseFrom 77 [.ref 0, .ref (43 + 2 * s), .int (nI (i0 + 5 * k)), .int (f (i0 + 5 * k)), .int (f (i0 + 5 * k + 1)), .int (f (i0 + 5 * k + 2)), .int (f (i0 + 5 * k + 3)), .int (f (i0 + 5 * k + 4))] (m_psh r []) g2)) (some (some (.int 0), gk)) := by
    intro k gk hk h12 h3' h2'
    have e : nI i0 + 5 * nI k = nI (i0 + 5 * k) := by
      rw [show (5 : Int32) = nI 5 from rfl, pk_mul, nI_add]
    generalize i0 + 5 * k = m at *
    have e1 : nI m + 1 = nI (m + 1) := nI_add m 1
    have e2 : nI m + 2 = nI (m + 2) := nI_add m 2
    have e3 : nI m + 3 = nI (m + 3) := nI_add m 3
    have e4 : nI m + 4 = nI (m + 4) := nI_add m 4
    have nm : ∀ j, j < L → ev none (d + 1) mm_X7_number 0 [.ref (43 + 2 * s), .int (nI j)] [] gk = some (some (.int (f j)), gk) := by
      intro j hj
      rw [v_number hs _ _ hL h3' hj, h2', hf j hj]
    rw [e, b_X11_promiseFrom_0 (isSh6 hs), nm m (by omega), mb_some, mp_some, b_X11_promiseFrom_5 (isSh6 hs), e1, nm (m + 1) (by omega), mb_some, mp_some, b_X11_promiseFrom_13 (isSh6 hs), e2, nm (m + 2) (by omega), mb_some, mp_some, b_X11_promiseFrom_22 (isSh6 hs), e3, nm (m + 3) (by omega), mb_some, mp_some, b_X11_promiseFrom_31 (isSh6 hs), e4, nm (m + 4) (by omega), mb_some, mp_some, b_X11_promiseFrom_40 (isSh6 hs), v_mayPromise _ _ hn h12, mb_some, mp_some, b_X11_promiseFrom_58 (isSh6 hs), mi_b2]
  intro r
  induction r with
  | zero =>
    intro k gk hk hPS
    have ek : k = K := by omega
    subst ek
    have hPS0 := hPS
    obtain ⟨x0, x1, x2, x3, x4, x5, x6, x7, x8⟩ := hPS
    refine ⟨gk, ?_, hPS0⟩
    have g12 : gk.1 1 12 = nI n := (x7 1 12 (by omega) (by omega)).trans hR.1
    have g3 : gk.1 (43 + 2 * s) 3 = nI L := (x7 _ 3 (by omega) (by omega)).trans h3
    rw [b_X11_promisesFrom_3 (isSh6 hs)]
    by_cases c : k = N
    · rw [m_if_neg (nI_nlt (by omega) (by omega))]
    · have hE' := hE.resolve_left c
      rw [m_if_pos (nI_lt (by omega) (by omega)), five k gk (by omega) g3, mb_some, mp_some, b_X11_promisesFrom_16 (isSh6 hs), mi_b2]
      by_cases c2 : i0 + 5 * k + 5 ≤ L
      · rw [m_if_pos c2, pf k gk c2 g12 g3 x8]
        by_cases c3 : ix n (f (i0 + 5 * k)) ∧ ix n (f (i0 + 5 * k + 1)) ∧ ¬ f (i0 + 5 * k) = f (i0 + 5 * k + 1) ∧ ix 25 (f (i0 + 5 * k + 2)) ∧ ix 10 (f (i0 + 5 * k + 3)) ∧ ix 100 (f (i0 + 5 * k + 4))
        · have c4 : ¬ p + k < 12 := fun q => hE' ⟨c2, q, c3⟩
          have hb : p + k ≤ 12 := by
            by_cases z : k = 0
            · omega
            · have := (hK (k - 1) (by omega)).2.1
              omega
          have e12 : p + k = 12 := by omega
          rw [m_if_pos c3, b_X9_addPromise_0, x0, e12, m_if_neg (show ¬ nI 12 < 12 by decide), mb_some, mp_some, b_X11_promiseFrom_77 (isSh6 hs), m_if_pos (by decide), mb_some, mp_some, b_X11_promisesFrom_30 (isSh6 hs), m_if_pos rfl]
        · rw [m_if_neg c3, mb_some, mp_some, b_X11_promisesFrom_30 (isSh6 hs), m_if_pos rfl]
      · rw [m_if_neg c2]
  | succ r ih =>
    intro k gk hk hPS
    have hPS0 := hPS
    obtain ⟨x0, x1, x2, x3, x4, x5, x6, x7, x8⟩ := hPS
    have ok := hK k (by omega)
    have g12 : gk.1 1 12 = nI n := (x7 1 12 (by omega) (by omega)).trans hR.1
    have g17 : gk.1 1 17 = g.1 1 17 := x7 1 17 (by omega) (by omega)
    have g3 : gk.1 (43 + 2 * s) 3 = nI L := (x7 _ 3 (by omega) (by omega)).trans h3
    obtain ⟨gK, e1, e2⟩ := ih (k + 1) _ (by omega) (PS_s (by omega) hPS0)
    refine ⟨gK, ?_, e2⟩
    rw [b_X11_promisesFrom_3 (isSh6 hs), m_if_pos (nI_lt (by omega) (by omega)), five k gk (by omega) g3, mb_some, mp_some, b_X11_promisesFrom_16 (isSh6 hs), mi_b2, m_if_pos ok.1, pf k gk ok.1 g12 g3 x8, m_if_pos ok.2.2, v_addX _ _ x0 ok.2.1, mb_some, mp_some, b_X11_promiseFrom_77 (isSh6 hs), m_if_neg (nI_pos (by have := ok.2.1; omega)), mb_some, mp_some, b_X11_promisesFrom_30 (isSh6 hs), m_if_neg (by decide), nI_1, g17]
    exact e1
theorem m_promises {n p nb L i0 N K s : Nat} {W : mW} {f : Nat → Int32} {g0 g : mG} (hIV : IV n p nb W g0) (hlo : ∀ c k, 55 ≤ c → g.1 c k = g0.1 c k) (hs : s < 6) (hL : L ≤ 60) (h3 : g.1 91 s = nI L) (hf : ∀ j, j < L → Int64.toInt32 (g.2 92 (60 * s + j)) = f j) (hN : N ≤ 12) (hi : i0 < L) (hKN : K ≤ N) (hK : ∀ k, k < K → okP n p L i0 f k) (hE : K = N ∨ ¬ okP n p L i0 f K) (d : Nat) : ∀ r k gk v5 v7, k + r = K → PS 58 55 4 (g.1 55 14) f i0 p k g gk → ∃ gK, ev none (d + 3) mm_X12_promises 58 [.ref 55, .int (nI s), .int (nI i0), .int (nI N), .int (nI k), v5, .null, v7] [] gk = some (some (.int (nI K)), gK) ∧ PS 58 55 4 (g.1 55 14) f i0 p K g gK := by
  obtain ⟨hV, hR, hC, hP, hL', hG, hB, hS⟩ := hIV
  have hn : n ≤ 6 := hV.1
  have hp : p ≤ 12 := hV.2.1
  have l0 : ∀ k, k ≤ 12 → Int32.toInt64 (nI i0) + Int32.toInt64 (5 * nI k) = lN (i0 + 5 * k) := by
    intro k hk
    rw [show (5 : Int32) = nI 5 from rfl, pk_mul, nI_l (by omega), nI_l (by omega), lN_add]
  have l1 : ∀ m, 60 * nI s + Int64.toInt32 (lN m) = nI (60 * s + m) := by
    intro m
    rw [lN_i, show (60 : Int32) = nI 60 from rfl, pk_mul, nI_add]
  have l4 : ∀ m, m < 200 → (lg_cmp (lN m + 4) (Int32.toInt64 (nI L)) < 0 ↔ m + 5 ≤ L) := by
    intro m hm
    have e4 : lN m + 4 = lN (m + 4) := lN_add m 4
    rw [e4, nI_l (by omega), lg_cmp_lt, lN_lt (by omega) (by omega)]
    omega
  have pf : ∀ (k : Nat) (gk : mG), k < N → i0 + 5 * k + 5 ≤ L → gk.1 55 1 = nI n → gk.1 91 s = nI L → gk.2 = g.2 → ∀ v5 v7, ev none (d + 3) mm_X12_promises 58 [.ref 55, .int (nI s), .int (nI i0), .int (nI N), .int (nI k), v5, .null, v7] [] gk = m_if (gk.1 55 4 = 12) (some (some (.int (nI k)), gk)) (m_if (ix n (f (i0 + 5 * k)) ∧ ix n (f (i0 + 5 * k + 1)) ∧ ¬ f (i0 + 5 * k) = f (i0 + 5 * k + 1)) (m_if (ix 25 (f (i0 + 5 * k + 2))) (m_if (ix 10 (f (i0 + 5 * k + 3))) (m_if (ix 100 (f (i0 + 5 * k + 4))) (m_bnd (ev none (d + 2) mm_X12_addPromise 0 [.ref 55, .int (f (i0 + 5 * k)), .int (f (i0 + 5 * k + 1)), .int (f (i0 + 5 * k + 2)), .int (f (i0 + 5 * k + 3)), .int (f (i0 + 5 * k + 4)), .null] [] gk) (fun r g2 => ev none (d + 3) mm_X12_promises 254 [.ref 55, .int (nI s), .int (nI i0), .int (nI N), .int (nI k), .long (lN (i0 + 5 * k)), .null, .int (nI (60 * s + (i0 + 5 * k)))] (m_psh r []) g2)) (some (some (.int (nI k)), gk))) (some (some (.int (nI k)), gk))) (some (some (.int (nI k)), gk))) (some (some (.int (nI k)), gk))) := by
    intro k gk hkN hk h1 h91 h2' v5 v7
    have nm : ∀ j, j < L → Int64.toInt32 (gk.2 92 (60 * s + j)) = f j := by
      intro j hj
      rw [h2', hf j hj]
    rw [b_X12_promises_58, m_if_pos (nI_lt hkN (by omega)), l0 k (by omega)]
    generalize i0 + 5 * k = m at *
    have e1 : nI (60 * s + m) + 1 = nI (60 * s + (m + 1)) := nI_add _ 1
    have e2 : nI (60 * s + m) + 2 = nI (60 * s + (m + 2)) := nI_add _ 2
    have e3 : nI (60 * s + m) + 3 = nI (60 * s + (m + 3)) := nI_add _ 3
    have e4 : nI (60 * s + m) + 4 = nI (60 * s + (m + 4)) := nI_add _ 4
    have i0' : ∀ j, j < 60 → ∀ x : Option (Option Value × mG), m_in (nI (60 * s + j)) 360 x = x := fun j hj x => mi_nI (by omega) (by omega)
    rw [m_if_neg (lg_neg (by omega)), mi_nI hs (by omega), pk_cl s (hx := rfl), h91, m_if_pos ((l4 m (by omega)).mpr hk), l1, e1, i0' m (by omega), i0' (m + 1) (by omega), pk_cl (60 * s + m) (hx := rfl), pk_cl (60 * s + (m + 1)) (hx := rfl), nm m (by omega), nm (m + 1) (by omega), v_areTwo _ _ hn h1, mb_some, mp_some, b_X12_promises_142, mi_b2, e2, i0' (m + 2) (by omega), pk_cl (60 * s + (m + 2)) (hx := rfl), nm (m + 2) (by omega), v_isPlaceOf, mb_some, mp_some, b_X12_promises_158, mi_b2, e3, i0' (m + 3) (by omega), pk_cl (60 * s + (m + 3)) (hx := rfl), nm (m + 3) (by omega), v_in _ _ _ 9 10 (by omega) rfl, mb_some, mp_some, b_X12_promises_177, mi_b2, e4, i0' (m + 4) (by omega), pk_cl (60 * s + (m + 4)) (hx := rfl), nm (m + 4) (by omega), v_in _ _ _ 99 100 (by omega) rfl, mb_some, mp_some, b_X12_promises_196, mi_b2, e1, e2, e3, e4, i0' m (by omega), i0' (m + 1) (by omega), i0' (m + 2) (by omega), i0' (m + 3) (by omega), i0' (m + 4) (by omega), pk_cl (60 * s + m) (hx := rfl), pk_cl (60 * s + (m + 1)) (hx := rfl), pk_cl (60 * s + (m + 2)) (hx := rfl), pk_cl (60 * s + (m + 3)) (hx := rfl), pk_cl (60 * s + (m + 4)) (hx := rfl), nm m (by omega), nm (m + 1) (by omega), nm (m + 2) (by omega), nm (m + 3) (by omega), nm (m + 4) (by omega)]
  intro r
  induction r with
  | zero =>
    intro k gk v5 v7 hk hPS
    have ek : k = K := by omega
    subst ek
    have hPS0 := hPS
    obtain ⟨x0, x1, x2, x3, x4, x5, x6, x7, x8⟩ := hPS
    refine ⟨gk, ?_, hPS0⟩
    have g1 : gk.1 55 1 = nI n := (x7 55 1 (by omega) (by omega)).trans ((hlo 55 1 (by omega)).trans hV.2.2.1)
    have g91 : gk.1 91 s = nI L := (x7 91 s (by omega) (by omega)).trans h3
    by_cases c : k = N
    · rw [b_X12_promises_58, m_if_neg (nI_nlt (by omega) (by omega)), c]
    · have hE' := hE.resolve_left c
      by_cases c2 : i0 + 5 * k + 5 ≤ L
      · rw [pf k gk (by omega) c2 g1 g91 x8]
        have hb : p + k ≤ 12 := by
          by_cases z : k = 0
          · omega
          · have := (hK (k - 1) (by omega)).2.1
            omega
        by_cases c4 : p + k < 12
        · rw [x0, m_if_neg (fun e => by
            have := (nI_eq (a := p + k) (b := 12) (by omega) (by omega)).mp e
            omega)]
          by_cases d1 : ix n (f (i0 + 5 * k)) ∧ ix n (f (i0 + 5 * k + 1)) ∧ ¬ f (i0 + 5 * k) = f (i0 + 5 * k + 1)
          · rw [m_if_pos d1]
            by_cases d2 : ix 25 (f (i0 + 5 * k + 2))
            · rw [m_if_pos d2]
              by_cases d3 : ix 10 (f (i0 + 5 * k + 3))
              · rw [m_if_pos d3, m_if_neg (fun d4 => hE' ⟨c2, c4, d1.1, d1.2.1, d1.2.2, d2, d3, d4⟩)]
              · rw [m_if_neg d3]
            · rw [m_if_neg d2]
          · rw [m_if_neg d1]
        · rw [x0, show p + k = 12 by omega, m_if_pos (show nI 12 = 12 from rfl)]
      · rw [b_X12_promises_58, m_if_pos (nI_lt (by omega) (by omega)), l0 k (by omega), m_if_neg (lg_neg (by omega)), mi_nI hs (by omega), pk_cl s (hx := rfl), g91, m_if_neg (fun q => c2 ((l4 _ (by omega)).mp q))]
  | succ r ih =>
    intro k gk v5 v7 hk hPS
    have hPS0 := hPS
    obtain ⟨x0, x1, x2, x3, x4, x5, x6, x7, x8⟩ := hPS
    have ok := hK k (by omega)
    have g1 : gk.1 55 1 = nI n := (x7 55 1 (by omega) (by omega)).trans ((hlo 55 1 (by omega)).trans hV.2.2.1)
    have g14 : gk.1 55 14 = g.1 55 14 := x7 55 14 (by omega) (by omega)
    have g91 : gk.1 91 s = nI L := (x7 91 s (by omega) (by omega)).trans h3
    obtain ⟨gK, e1, e2⟩ := ih (k + 1) _ (.long (lN (i0 + 5 * k))) (.int (nI (60 * s + (i0 + 5 * k)))) (by omega) (PS_s (by omega) hPS0)
    refine ⟨gK, ?_, e2⟩
    obtain ⟨o1, o2, o3, o4, o5, o6, o7, o8⟩ := ok
    rw [pf k gk (by omega) o1 g1 g91 x8, x0, m_if_neg (fun e => by
      have := (nI_eq (a := p + k) (b := 12) (by omega) (by omega)).mp e
      omega), m_if_pos ⟨o3, o4, o5⟩, m_if_pos o6, m_if_pos o7, m_if_pos o8, v_addM _ _ x0 o2, mb_some, mp_some, b_X12_promises_254, nI_1, g14]
    exact e1
theorem o_promises : op_promises Inv 1299 := by
  intro g hI a1 a2 a3
  have hI0 := hI
  obtain ⟨n, p, nb, W, hIV⟩ := hI
  have hIV0 : IV n p nb W g := hIV
  obtain ⟨hV, hR, hC, hP, hL, hG, hB, hS⟩ := hIV
  have hn : n ≤ 6 := hV.1
  have hp : p ≤ 12 := hV.2.1
  have hnb : nb ≤ 50 := by
    obtain ⟨r, b1, b2⟩ := hB
    exact b1
  have hM0 : ∀ g1 : mG, ev none 1299 mm_X12_promises 0 [.ref 55, .int a1, .int a2, .int a3, .null, .null, .null, .null] [] g1 = m_if (ix 6 a1) (m_if (¬ a3 < 1 ∧ ¬ 12 < a3) (ev none 1299 mm_X12_promises 14 [.ref 55, .int a1, .int a2, .int a3, .null, .null, .null, .null] [.int 1] g1) (some (some (.int (-1)), g1))) (some (some (.int (-1)), g1)) := by
    intro g1
    rw [b_X12_promises_0, v_isShelfM, mb_some, mp_some, b_X12_promises_4, mi_b2, v_X12_in, mb_some, mp_some]
    by_cases c : ¬ a3 < 1 ∧ ¬ 12 < a3
    · rw [b2_t c, m_if_pos c]
    · rw [b2_f c, m_if_neg c, b_X12_promises_14, m_if_pos rfl]
  rw [b_X11_promises_0, v_isShelf, mb_some, mp_some, b_X11_promises_4, mi_b2]
  by_cases h : ix 6 a1
  · rw [m_if_pos h]
    by_cases h2 : ¬ a3 < 1 ∧ ¬ 12 < a3
    · obtain ⟨s, hs, e⟩ := h
      subst e
      obtain ⟨N, hN, eN⟩ : ix 13 a3 := (ix_le (n := 12) (by omega)).mp ⟨fun c1 => h2.1 (by
        rw [Int32.lt_iff_toInt_lt] at c1 ⊢
        have e1 : (0 : Int32).toInt = 0 := by decide
        have e2 : (1 : Int32).toInt = 1 := by decide
        omega), h2.2⟩
      subst eN
      have hN1 : 1 ≤ N := by
        by_cases c : N = 0
        · subst c; exact absurd (show nI 0 < 1 by decide) h2.1
        · omega
      rw [m_if_neg h2.1, m_if_neg h2.2, mi_nI hs (by omega), pk_cl s (hx := rfl), sel6 hs, b_X11_promises_26 (isSh6 hs), v_refusal hs hnb _ _ hS, mb_some, mp_some, b_X11_promises_29]
      have hM1 : ∀ g1 : mG, ev none 1299 mm_X12_promises 0 [.ref 55, .int (nI s), .int a2, .int (nI N), .null, .null, .null, .null] [] g1 = m_if (g1.1 90 s = -1) (some (some (.int 0), g1)) (m_if (g1.1 90 s = -2) (ev none 1299 mm_X12_promises 58 [.ref 55, .int (nI s), .int a2, .int (nI N), .int 0, .null, .null, .null] [] g1) (some (some (.int (-12)), g1))) := by
        intro g1
        rw [hM0, m_if_pos (ix_nI hs), m_if_pos h2, b_X12_promises_14, m_if_neg (by decide), mi_nI hs (by omega), mi_nI hs (by omega), pk_cl s (hx := rfl), b_X12_promises_43, mi_nI hs (by omega), pk_cl s (hx := rfl)]
        by_cases c : g1.1 90 s = -1
        · rw [m_if_pos c, m_if_pos c, m_if_pos c]
        · rw [m_if_neg c, m_if_neg c, m_if_neg c]
      unfold rf
      rcases hS s hs with ⟨h4, h5, h6⟩ | ⟨b, hb, h4, h5, h6⟩ | ⟨t, L, ht, hL2, h4, h5, h6, h7, h8, h9, h10⟩
      · rw [h6, if_pos rfl, m_if_pos rfl]
        exact ⟨_, _, g, rfl, by rw [hM1, m_if_pos h6], hI0⟩
      · have n1 := nI_neg (b := b) (by omega)
        rw [h6, if_neg n1.1, if_neg n1.2, m_if_neg (by decide), m_if_neg (by decide), b_X11_promises_62]
        exact ⟨_, _, g, rfl, by rw [hM1, h6, m_if_neg n1.1, m_if_neg n1.2], hI0⟩
      · have n1 := hold_t t ht
        rw [h7, if_neg n1.1]
        by_cases et : t = 0
        · rw [if_pos (n1.2.2.1.mpr et), m_if_neg (by decide), m_if_pos rfl, mi_nI hs (by omega), pk_cl s (hx := rfl), sel6 hs, b_X11_promises_57 (isSh6 hs), b_X11_promisesFrom_0 (isSh6 hs)]
          have hM2 : ∀ g1 : mG, g1.1 90 s = g.1 90 s → ev none 1299 mm_X12_promises 0 [.ref 55, .int (nI s), .int a2, .int (nI N), .null, .null, .null, .null] [] g1 = ev none 1299 mm_X12_promises 58 [.ref 55, .int (nI s), .int a2, .int (nI N), .int 0, .null, .null, .null] [] g1 := by
            intro g1 e1
            rw [hM1, e1, h7, m_if_neg n1.1, m_if_pos (n1.2.2.1.mpr et)]
          by_cases ca : a2 < 0
          · refine ⟨0, g, g, ?_, ?_, hI0⟩
            · rw [b_X11_promisesFrom_3 (isSh6 hs), m_if_pos (show (0 : Int32) < nI N from nI_lt (a := 0) (by omega) (by omega)), b_X7_hasFive_0 (isSh6 hs), m_if_pos ca, mb_some, mp_some, b_X11_promisesFrom_16 (isSh6 hs), m_if_pos rfl, mb_some, mp_some, b_X11_promises_62]
            · have e0 : lg_cmp (Int32.toInt64 a2 + Int32.toInt64 (5 * 0)) 0 < 0 := by
                rw [lg_cmp_lt, show Int32.toInt64 (5 * 0) = 0 from by decide, Int64.add_zero, Int64.lt_iff_toInt_lt, Int32.toInt_toInt64]
                rw [Int32.lt_iff_toInt_lt] at ca
                exact ca
              rw [hM2 g rfl, b_X12_promises_58, m_if_pos (show (0 : Int32) < nI N from nI_lt (a := 0) (by omega) (by omega)), m_if_pos e0]
          · obtain ⟨i0, hi0, ei⟩ := nI_of ca
            subst ei
            by_cases cb : i0 < L
            · generalize hfd : (fun j => Int64.toInt32 (g.2 (44 + 2 * s) j)) = f
              have hf : ∀ j, j < L → Int64.toInt32 (g.2 (44 + 2 * s) j) = f j := fun j _ => by rw [← hfd]
              obtain ⟨K, hK1, hK2⟩ := pk_least (fun k => k = N ∨ ¬ okP n p L i0 f k) ⟨N, Or.inl rfl⟩
              have hKN : K ≤ N := by
                refine Decidable.byContradiction (fun c => ?_)
                exact hK2 N (by omega) (Or.inl rfl)
              have hK : ∀ k, k < K → okP n p L i0 f k := fun k hk => Classical.byContradiction (fun c => hK2 k hk (Or.inr c))
              obtain ⟨g1, x1, x2⟩ := x_promises hIV0 hs hL2 h6 hf (by omega) cb hKN hK hK1 1295 K 0 g (by omega) (PS_0 hR.2.1)
              have x2' := x2
              obtain ⟨y0, y1, y2, y3, y4, y5, y6, y7, y8⟩ := x2'
              have lo : ∀ c k, 55 ≤ c → g1.1 c k = g.1 c k := fun c k hc => y7 c k (by omega) (by omega)
              have hfm : ∀ j, j < L → Int64.toInt32 (g1.2 92 (60 * s + j)) = f j := fun j hj => by
                rw [y8, ← h9 j hj, hf j hj]
              have p0 : g1.1 55 4 = nI p := (lo 55 4 (by omega)).trans hV.2.2.2.1
              obtain ⟨g2, z1, z2⟩ := m_promises hIV0 lo hs hL2 ((lo 91 s (by omega)).trans h8) hfm (by omega) cb hKN hK hK1 1296 K 0 g1 .null .null (by omega) (PS_0 p0)
              have x1' : ev none 1298 mm_X11_promisesFrom 3 [.ref 0, .ref (43 + 2 * s), .int (nI i0), .int (nI N), .int 0] [] g = some (some (.int (nI K)), g1) := x1
              have z1' : ev none 1299 mm_X12_promises 58 [.ref 55, .int (nI s), .int (nI i0), .int (nI N), .int 0, .null, .null, .null] [] g1 = some (some (.int (nI K)), g2) := z1
              refine ⟨nI K, g1, g2, ?_, ?_, ?_⟩
              · rw [x1', mb_some, mp_some, b_X11_promises_62]
              · rw [hM2 g1 (lo 90 s (by omega)), z1']
              · rw [lo 55 14 (by omega)] at z2
                exact ⟨n, p + K, nb, W, IV_PS hIV0 hK x2 z2⟩
            · refine ⟨0, g, g, ?_, ?_, hI0⟩
              · rw [b_X11_promisesFrom_3 (isSh6 hs), m_if_pos (show (0 : Int32) < nI N from nI_lt (a := 0) (by omega) (by omega)), b_X7_hasFive_0 (isSh6 hs), m_if_neg ca, h6, m_if_neg (nI_nlt (by omega) hi0), mb_some, mp_some, b_X11_promisesFrom_16 (isSh6 hs), m_if_pos rfl, mb_some, mp_some, b_X11_promises_62]
              · have e0 : Int32.toInt64 (nI i0) + Int32.toInt64 (5 * 0) = lN i0 := by
                  rw [show Int32.toInt64 (5 * 0) = 0 from by decide, Int64.add_zero, nI_l hi0]
                have e1 : ¬ lg_cmp (lN i0 + 4) (Int32.toInt64 (nI L)) < 0 := by
                  rw [lg_cmp_lt, show lN i0 + 4 = lN (i0 + 4) from lN_add i0 4, nI_l (by omega), pk_lLT (by omega) (by omega)]
                  omega
                rw [hM2 g rfl, b_X12_promises_58, m_if_pos (show (0 : Int32) < nI N from nI_lt (a := 0) (by omega) (by omega)), e0, m_if_neg (lg_neg hi0), mi_nI hs (by omega), pk_cl s (hx := rfl), h8, m_if_neg e1]
        · rw [if_neg (fun q => et (n1.2.2.1.mp q)), m_if_neg (by decide), m_if_neg (by decide), b_X11_promises_62]
          exact ⟨_, _, g, rfl, by rw [hM1, h7, m_if_neg n1.1, m_if_neg (fun q => et (n1.2.2.1.mp q))], hI0⟩
    · refine op_bad (-1) hI0 ?_ ?_
      · by_cases c : a3 < 1
        · rw [m_if_pos c]
        · rw [m_if_neg c, m_if_pos (Decidable.byContradiction (fun c2 => h2 ⟨c, c2⟩))]
      · rw [hM0, m_if_pos h, m_if_neg h2]
  · rw [m_if_neg h]
    exact ⟨_, _, g, rfl, by rw [hM0, m_if_neg h], hI0⟩
