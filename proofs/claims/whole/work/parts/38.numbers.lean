/-! OPERATIONS (6): numbers that are told, mended, undone -/
theorem lt10 {t : Nat} {P : Nat → Prop} (h : t < 10) (h0 : P 0) (h1 : P 1) (h2 : P 2) (h3 : P 3) (h4 : P 4) (h5 : P 5) (h6 : P 6) (h7 : P 7) (h8 : P 8) (h9 : P 9) : P t := by
  match t, h with
  | 0, _ => exact h0
  | 1, _ => exact h1
  | 2, _ => exact h2
  | 3, _ => exact h3
  | 4, _ => exact h4
  | 5, _ => exact h5
  | 6, _ => exact h6
  | 7, _ => exact h7
  | 8, _ => exact h8
  | 9, _ => exact h9
theorem lt12 {t : Nat} {P : Nat → Prop} (h : t < 12) (h0 : P 0) (h1 : P 1) (h2 : P 2) (h3 : P 3) (h4 : P 4) (h5 : P 5) (h6 : P 6) (h7 : P 7) (h8 : P 8) (h9 : P 9) (h10 : P 10) (h11 : P 11) : P t := by
  by_cases c : t < 10
  · exact lt10 c h0 h1 h2 h3 h4 h5 h6 h7 h8 h9
  · by_cases c2 : t = 10
    · subst c2; exact h10
    · have : t = 11 := by omega
      subst this; exact h11
/-- there is such a number -/
def hnw (n p w : Nat) (x : Int32) : Prop := if w < 2 then ix n x else if w = 8 ∨ w = 9 then x = 0 else ix p x
theorem hnw_nI {n p w : Nat} {x : Int32} (hn : n ≤ 6) (hp : p ≤ 12) (h : hnw n p w x) : ∃ a, x = nI a ∧ a < 12 ∧ (w < 2 → a < n) ∧ (2 ≤ w → w ≠ 8 → w ≠ 9 → a < p) ∧ (w = 8 ∨ w = 9 → a = 0) := by
  unfold hnw at h
  by_cases c : w < 2
  · rw [if_pos c] at h
    obtain ⟨a, ha, e⟩ := h
    exact ⟨a, e, by omega, fun _ => ha, fun _ => by omega, fun _ => by omega⟩
  · rw [if_neg c] at h
    by_cases c2 : w = 8 ∨ w = 9
    · rw [if_pos c2] at h
      exact ⟨0, h, by omega, fun _ => by omega, fun _ => by omega, fun _ => rfl⟩
    · rw [if_neg c2] at h
      obtain ⟨a, ha, e⟩ := h
      exact ⟨a, e, by omega, fun _ => by omega, fun _ _ _ => ha, fun _ => by omega⟩
/-- the number itself -/
def mv (h : mH) (w a : Nat) : Int32 := match w with
  | 0 => h 56 a
  | 1 => h 57 a
  | 2 => h 60 a
  | 3 => h 61 a
  | 4 => h 62 a
  | 5 => h 63 a
  | 6 => h 64 a
  | 7 => h 65 a
  | 8 => h 55 13
  | 9 => h 55 14
  | 10 => h 58 a
  | _ => h 59 a
theorem v_hasNumber {n p : Nat} (d : Nat) (g : mG) (hn : n ≤ 6) (hp : p ≤ 12) (h1 : g.1 1 12 = nI n) (h2 : g.1 1 13 = nI p) (x : Int32) (w : Nat) (hw : w < 12) : ev none (d + 1) mm_X9_hasNumber 0 [.ref 1, .int x, .int (nI w)] [] g = some (some (.int (b2 (hnw n p w x))), g) := by
  have e9 : ∀ y : Int32, ev none (d + 1) mm_X9_hasNumber 9 [.ref 1, .int x, .int y] [] g = some (some (.int (b2 (ix n x))), g) := by
    intro y
    rw [b_X9_hasNumber_9, v_hasPerson _ g _ n (by omega) h1, mb_some, mp_some, b_X9_hasNumber_14, if_pos (b2_and _)]
  have e27 : ∀ y : Int32, ev none (d + 1) mm_X9_hasNumber 27 [.ref 1, .int x, .int y] [] g = some (some (.int (b2 (x = 0))), g) := by
    intro y
    rw [b_X9_hasNumber_27, mi_tt]
  rw [b_X9_hasNumber_0, e9, e27, v_hasPromise _ g _ p (by omega) h2, mb_some, mp_some, b_X9_hasNumber_42, if_pos (b2_and _)]
  refine lt12 (P := fun w => m_if (nI w = 0) (some (some (Value.int (b2 (ix n x))), g)) (m_if (nI w = 1) (some (some (Value.int (b2 (ix n x))), g)) (m_if (nI w = 8) (some (some (Value.int (b2 (x = 0))), g)) (m_if (nI w = 9) (some (some (Value.int (b2 (x = 0))), g)) (some (some (Value.int (b2 (ix p x))), g))))) = some (some (Value.int (b2 (hnw n p w x))), g)) hw ?_ ?_ ?_ ?_ ?_ ?_ ?_ ?_ ?_ ?_ ?_ ?_
  · rw [m_if_pos (by decide)]; rfl
  · rw [m_if_neg (by decide), m_if_pos (by decide)]; rfl
  · rw [m_if_neg (by decide), m_if_neg (by decide), m_if_neg (by decide), m_if_neg (by decide)]; rfl
  · rw [m_if_neg (by decide), m_if_neg (by decide), m_if_neg (by decide), m_if_neg (by decide)]; rfl
  · rw [m_if_neg (by decide), m_if_neg (by decide), m_if_neg (by decide), m_if_neg (by decide)]; rfl
  · rw [m_if_neg (by decide), m_if_neg (by decide), m_if_neg (by decide), m_if_neg (by decide)]; rfl
  · rw [m_if_neg (by decide), m_if_neg (by decide), m_if_neg (by decide), m_if_neg (by decide)]; rfl
  · rw [m_if_neg (by decide), m_if_neg (by decide), m_if_neg (by decide), m_if_neg (by decide)]; rfl
  · rw [m_if_neg (by decide), m_if_neg (by decide), m_if_pos (by decide)]; rfl
  · rw [m_if_neg (by decide), m_if_neg (by decide), m_if_neg (by decide), m_if_pos (by decide)]; rfl
  · rw [m_if_neg (by decide), m_if_neg (by decide), m_if_neg (by decide), m_if_neg (by decide)]; rfl
  · rw [m_if_neg (by decide), m_if_neg (by decide), m_if_neg (by decide), m_if_neg (by decide)]; rfl
theorem v_numberOf {W : mW} {n p : Nat} {g : mG} (hX : XR W n p g.1 g) (d : Nat) (w a : Nat) (hw : w < 12) (ha : a < 12) (hh : hnw n p w (nI a)) : ev none (d + 2) mm_X9_numberOf 0 [.ref 1, .int (nI a), .int (nI w)] [] g = some (some (.int (mv g.1 w a)), g) := by
  have hn : n ≤ 6 := hX.1.1
  have hp : p ≤ 12 := hX.1.2.1
  obtain ⟨r1, r2, r3, r4, r5, r6, r7, r8⟩ := hX.2.1
  rw [b_X9_numberOf_0, v_hasNumber _ g hn hp r1 r2 _ w hw, mb_some, mp_some, b_X9_numberOf_6, mi_b2, m_if_pos hh, pk_cl a (hx := rfl)]
  have q12 : ∀ x : Option (Option Value × mG), m_in (nI a) 12 x = x := fun x => mi_nI ha (by omega)
  have e14 : (g.1 1 14 >>> (nI a &&& 31)) &&& 1 = g.1 64 a := by
    obtain ⟨F, f1, f2, f3⟩ := r5
    rw [f2, t_bit (by omega) (by omega), f3 a ha]
  have e15 : (g.1 1 15 >>> (nI a &&& 31)) &&& 1 = g.1 65 a := by
    obtain ⟨F, f1, f2, f3⟩ := r6
    rw [f2, t_bit (by omega) (by omega), f3 a ha]
  have q6 : w < 2 → ∀ x : Option (Option Value × mG), m_in (nI a) 6 x = x := fun c x => by
    obtain ⟨b, e, hb, h1, h2⟩ := hnw_nI hn hp hh
    have : a = b := (nI_eq (by omega) (by omega)).mp e
    exact mi_nI (by have := h1 c; omega) (by omega)
  have a6 : w < 2 → a < 6 := fun c => by
    obtain ⟨b, e, hb, h1, h2⟩ := hnw_nI hn hp hh
    have : a = b := (nI_eq (by omega) (by omega)).mp e
    have := h1 c
    omega
  simp only [q12, e14, e15, (r4 a ha).1, (r4 a ha).2.1, (r4 a ha).2.2.1, (r4 a ha).2.2.2.1, (r4 a ha).2.2.2.2.1, (r4 a ha).2.2.2.2.2, r7, r8]
  clear hh
  revert q6 a6
  refine lt12 (P := fun w => (w < 2 → ∀ x : Option (Option Value × mG), m_in (nI a) 6 x = x) → (w < 2 → a < 6) → m_if (nI w = 0) _ (m_if (nI w = 1) _ (m_if (nI w = 2) _ (m_if (nI w = 3) _ (m_if (nI w = 4) _ (m_if (nI w = 5) _ (m_if (nI w = 6) _ (m_if (nI w = 7) _ (m_if (nI w = 8) _ (m_if (nI w = 9) _ (m_if (nI w = 10) _ (m_if (nI w = 11) _ _))))))))))) = some (some (Value.int (mv g.1 w a)), g)) hw ?_ ?_ ?_ ?_ ?_ ?_ ?_ ?_ ?_ ?_ ?_ ?_
  · intro q6 a6
    rw [m_if_pos (by decide), q6 (by omega), (r3 a (a6 (by omega))).1]; rfl
  · intro q6 a6
    rw [m_if_neg (by decide), m_if_pos (by decide), q6 (by omega), (r3 a (a6 (by omega))).2.1]; rfl
  · intro q6 a6
    rw [m_if_neg (by decide), m_if_neg (by decide), m_if_pos (by decide)]; rfl
  · intro q6 a6
    rw [m_if_neg (by decide), m_if_neg (by decide), m_if_neg (by decide), m_if_pos (by decide)]; rfl
  · intro q6 a6
    rw [m_if_neg (by decide), m_if_neg (by decide), m_if_neg (by decide), m_if_neg (by decide), m_if_pos (by decide)]; rfl
  · intro q6 a6
    rw [m_if_neg (by decide), m_if_neg (by decide), m_if_neg (by decide), m_if_neg (by decide), m_if_neg (by decide), m_if_pos (by decide)]; rfl
  · intro q6 a6
    rw [m_if_neg (by decide), m_if_neg (by decide), m_if_neg (by decide), m_if_neg (by decide), m_if_neg (by decide), m_if_neg (by decide), m_if_pos (by decide)]; rfl
  · intro q6 a6
    rw [m_if_neg (by decide), m_if_neg (by decide), m_if_neg (by decide), m_if_neg (by decide), m_if_neg (by decide), m_if_neg (by decide), m_if_neg (by decide), m_if_pos (by decide)]; rfl
  · intro q6 a6
    rw [m_if_neg (by decide), m_if_neg (by decide), m_if_neg (by decide), m_if_neg (by decide), m_if_neg (by decide), m_if_neg (by decide), m_if_neg (by decide), m_if_neg (by decide), m_if_pos (by decide)]; rfl
  · intro q6 a6
    rw [m_if_neg (by decide), m_if_neg (by decide), m_if_neg (by decide), m_if_neg (by decide), m_if_neg (by decide), m_if_neg (by decide), m_if_neg (by decide), m_if_neg (by decide), m_if_neg (by decide), m_if_pos (by decide)]; rfl
  · intro q6 a6
    rw [m_if_neg (by decide), m_if_neg (by decide), m_if_neg (by decide), m_if_neg (by decide), m_if_neg (by decide), m_if_neg (by decide), m_if_neg (by decide), m_if_neg (by decide), m_if_neg (by decide), m_if_neg (by decide), m_if_pos (by decide)]; rfl
  · intro q6 a6
    rw [m_if_neg (by decide), m_if_neg (by decide), m_if_neg (by decide), m_if_neg (by decide), m_if_neg (by decide), m_if_neg (by decide), m_if_neg (by decide), m_if_neg (by decide), m_if_neg (by decide), m_if_neg (by decide), m_if_neg (by decide), m_if_pos (by decide)]; rfl
theorem v_valueAt {W : mW} {n p : Nat} {h : mH} {g : mG} (hM : MC W n p h g) (d : Nat) (w a : Nat) (hw : w < 10) (ha : a < 12) (hh : hnw n p w (nI a)) : ev none d mm_X12_valueAt 0 [.ref 55, .int (nI w), .int (nI a)] [] g = some (some (.int (mv h w a)), g) := by
  have hn : n ≤ 6 := hM.1.1
  have hp : p ≤ 12 := hM.1.2.1
  obtain ⟨t1, t2, t3, t4, t5⟩ := hM.2.1
  obtain ⟨f1, f2, f3, f4, f5, f6, f7, f8, f9, f10⟩ := t5 a
  have q12 : ∀ x : Option (Option Value × mG), m_in (nI a) 12 x = x := fun x => mi_nI ha (by omega)
  have q6 : w < 2 → ∀ x : Option (Option Value × mG), m_in (nI a) 6 x = x := fun c x => by
    obtain ⟨b, e, hb, h1, h2⟩ := hnw_nI hn hp hh
    have : a = b := (nI_eq (by omega) (by omega)).mp e
    exact mi_nI (by have := h1 c; omega) (by omega)
  rw [b_X12_valueAt_0, pk_cl a (hx := rfl)]
  simp only [q12, f1, f2, f5, f6, f7, f8, f9, f10, t3, t4]
  clear hh
  revert q6
  refine lt10 (P := fun w => (w < 2 → ∀ x : Option (Option Value × mG), m_in (nI a) 6 x = x) → m_if (nI w = 0) _ (m_if (nI w = 1) _ (m_if (nI w = 2) _ (m_if (nI w = 3) _ (m_if (nI w = 4) _ (m_if (nI w = 5) _ (m_if (nI w = 6) _ (m_if (nI w = 7) _ (m_if (nI w = 8) _ _)))))))) = some (some (Value.int (mv h w a)), g)) hw ?_ ?_ ?_ ?_ ?_ ?_ ?_ ?_ ?_ ?_
  · intro q6
    rw [m_if_pos (by decide), q6 (by omega)]; rfl
  · intro q6
    rw [m_if_neg (by decide), m_if_pos (by decide), q6 (by omega)]; rfl
  · intro q6
    rw [m_if_neg (by decide), m_if_neg (by decide), m_if_pos (by decide)]; rfl
  · intro q6
    rw [m_if_neg (by decide), m_if_neg (by decide), m_if_neg (by decide), m_if_pos (by decide)]; rfl
  · intro q6
    rw [m_if_neg (by decide), m_if_neg (by decide), m_if_neg (by decide), m_if_neg (by decide), m_if_pos (by decide)]; rfl
  · intro q6
    rw [m_if_neg (by decide), m_if_neg (by decide), m_if_neg (by decide), m_if_neg (by decide), m_if_neg (by decide), m_if_pos (by decide)]; rfl
  · intro q6
    rw [m_if_neg (by decide), m_if_neg (by decide), m_if_neg (by decide), m_if_neg (by decide), m_if_neg (by decide), m_if_neg (by decide), m_if_pos (by decide)]; rfl
  · intro q6
    rw [m_if_neg (by decide), m_if_neg (by decide), m_if_neg (by decide), m_if_neg (by decide), m_if_neg (by decide), m_if_neg (by decide), m_if_neg (by decide), m_if_pos (by decide)]; rfl
  · intro q6
    rw [m_if_neg (by decide), m_if_neg (by decide), m_if_neg (by decide), m_if_neg (by decide), m_if_neg (by decide), m_if_neg (by decide), m_if_neg (by decide), m_if_neg (by decide), m_if_pos (by decide)]; rfl
  · intro q6
    rw [m_if_neg (by decide), m_if_neg (by decide), m_if_neg (by decide), m_if_neg (by decide), m_if_neg (by decide), m_if_neg (by decide), m_if_neg (by decide), m_if_neg (by decide), m_if_neg (by decide)]; rfl
theorem in_c {x a b : Int32} : (¬ x < a ∧ ¬ b < x) ↔ (a.toInt ≤ x.toInt ∧ x.toInt ≤ b.toInt) := by
  rw [Int32.lt_iff_toInt_lt, Int32.lt_iff_toInt_lt]
  omega
theorem v_isPlaceM {W : mW} {n p : Nat} {h : mH} {g : mG} (hM : MC W n p h g) (d : Nat) (w : Nat) (hw : w < 10) (x : Int32) : ev none (d + 2) mm_X12_isPlace 0 [.ref 55, .int x, .int (nI w)] [] g = some (some (.int (b2 (hnw n p w x))), g) := by
  have hn : n ≤ 6 := hM.1.1
  have hp : p ≤ 12 := hM.1.2.1
  rw [b_X12_isPlace_0, v_X12_in, mb_some, mp_some, b_X12_isPlace_6, mi_b2, v_X12_in, mb_some, mp_some, b_X12_isPlace_24, mi_b2, v_X12_in, mb_some, mp_some, b_X12_isPlace_43, mi_b2, v_isOne _ _ _ n (by omega) (MC_n hM), mb_some, mp_some, b_X12_isPlace_14, if_pos (b2_and _), v_isPromise _ _ _ p (by omega) (MC_p hM), mb_some, mp_some, b_X12_isPlace_32, if_pos (b2_and _), mi_tt]
  refine lt10 (P := fun w => m_if (¬ nI w < 0 ∧ ¬ 1 < nI w) (some (some (Value.int (b2 (ix n x))), g)) (m_if (¬ nI w < 2 ∧ ¬ 7 < nI w) (some (some (Value.int (b2 (ix p x))), g)) (m_if (¬ nI w < 8 ∧ ¬ 9 < nI w) (some (some (Value.int (b2 (x = 0))), g)) (some (some (Value.int 0), g)))) = some (some (Value.int (b2 (hnw n p w x))), g)) hw ?_ ?_ ?_ ?_ ?_ ?_ ?_ ?_ ?_ ?_
  · rw [m_if_pos (by decide)]; rfl
  · rw [m_if_pos (by decide)]; rfl
  · rw [m_if_neg (by decide), m_if_pos (by decide)]; rfl
  · rw [m_if_neg (by decide), m_if_pos (by decide)]; rfl
  · rw [m_if_neg (by decide), m_if_pos (by decide)]; rfl
  · rw [m_if_neg (by decide), m_if_pos (by decide)]; rfl
  · rw [m_if_neg (by decide), m_if_pos (by decide)]; rfl
  · rw [m_if_neg (by decide), m_if_pos (by decide)]; rfl
  · rw [m_if_neg (by decide), m_if_neg (by decide), m_if_pos (by decide)]; rfl
  · rw [m_if_neg (by decide), m_if_neg (by decide), m_if_pos (by decide)]; rfl
theorem v_isPlace_no {W : mW} {n p : Nat} {h : mH} {g : mG} (hM : MC W n p h g) (d : Nat) (x y : Int32) (hy : ¬ ix 10 y) : ev none (d + 2) mm_X12_isPlace 0 [.ref 55, .int x, .int y] [] g = some (some (.int 0), g) := by
  have n1 : ¬ (¬ y < 0 ∧ ¬ 1 < y) := fun c => hy (ix_mono ((ix_le (n := 1) (by omega)).mp c) (by omega))
  have n2 : ¬ (¬ y < 2 ∧ ¬ 7 < y) := fun c => hy (ix_mono ((ix_le (n := 7) (by omega)).mp ⟨fun c1 => c.1 (by
    rw [Int32.lt_iff_toInt_lt] at c1 ⊢
    have e1 : (0 : Int32).toInt = 0 := by decide
    have e2 : (2 : Int32).toInt = 2 := by decide
    omega), c.2⟩) (by omega))
  have n3 : ¬ (¬ y < 8 ∧ ¬ 9 < y) := fun c => hy (ix_mono ((ix_le (n := 9) (by omega)).mp ⟨fun c1 => c.1 (by
    rw [Int32.lt_iff_toInt_lt] at c1 ⊢
    have e1 : (0 : Int32).toInt = 0 := by decide
    have e2 : (8 : Int32).toInt = 8 := by decide
    omega), c.2⟩) (by omega))
  rw [b_X12_isPlace_0, v_X12_in, mb_some, mp_some, b_X12_isPlace_6, mi_b2, m_if_neg n1, v_X12_in, mb_some, mp_some, b_X12_isPlace_24, mi_b2, m_if_neg n2, v_X12_in, mb_some, mp_some, b_X12_isPlace_43, mi_b2, m_if_neg n3]
theorem ix12 {x : Int32} : (¬ x < 0 ∧ x < 12) ↔ ix 12 x := ix_lt (n := 12) (by omega)
theorem ix10 {x : Int32} : (¬ x < 0 ∧ x < 10) ↔ ix 10 x := ix_lt (n := 10) (by omega)
theorem o_of : op_of Inv 1299 := by
  intro g hI a1 a2
  obtain ⟨n, p, W, hX, hM⟩ := inv_C hI
  have hn : n ≤ 6 := hX.1.1
  have hp : p ≤ 12 := hX.1.2.1
  by_cases h : ix 12 a2
  · have h3 := ix12.mpr h
    obtain ⟨w, hw, e⟩ := h
    subst e
    have hX0 : ev none 1299 mm_X11_of 0 [.ref 0, .int a1, .int (nI w)] [] g = _ := b_X11_of_0 1298 g a1 (nI w)
    rw [m_if_neg h3.1, m_if_pos h3.2, v_hasNumber _ g hn hp hX.2.1.1 hX.2.1.2.1 _ w hw, mb_some, mp_some, b_X11_of_19, mi_b2] at hX0
    have hM0 : ev none 1299 mm_X12_of 0 [.ref 55, .int a1, .int (nI w)] [] g = _ := b_X12_of_0 1298 g a1 (nI w)
    rw [v_X12_in, mb_some, mp_some, b_X12_of_8, mi_b2] at hM0
    by_cases hh : hnw n p w a1
    · obtain ⟨a, e, ha, b1, b2, b3⟩ := hnw_nI hn hp hh
      subst e
      rw [m_if_pos hh, v_numberOf hX _ w a hw ha hh, mb_some, mp_some, b_X11_of_33] at hX0
      refine op_bad (mv g.1 w a) hI hX0 ?_
      by_cases c : w < 10
      · have n1 : ¬ (¬ nI w < 10 ∧ ¬ 11 < nI w) := fun q => q.1 (nI_lt (b := 10) c (by omega))
        rw [m_if_neg n1, v_isPlaceM hM _ w c, mb_some, mp_some, b_X12_of_51, mi_b2, m_if_pos hh, v_valueAt hM _ w a c ha hh, mb_some, mp_some, b_X12_of_60] at hM0
        exact hM0
      · have ap : a < p := b2 (by omega) (by omega) (by omega)
        have y1 : (¬ nI w < 10 ∧ ¬ 11 < nI w) := ⟨nI_nlt (b := 10) (by omega) (by omega), nI_nlt (a := 11) (by omega) (by omega)⟩
        rw [m_if_pos y1, v_isPromise _ _ _ p (by omega) (MC_p hM), mb_some, mp_some, b_X12_of_16, mi_b2, m_if_pos (ix_nI ap), mi_nI (by omega) (by omega), mi_nI (by omega) (by omega), pk_cl a (hx := rfl)] at hM0
        rw [hM0]
        by_cases c2 : w = 10
        · subst c2
          rw [m_if_pos (by decide)]; rfl
        · have : w = 11 := by omega
          subst this
          rw [m_if_neg (by decide)]; rfl
    · rw [m_if_neg hh] at hX0
      refine op_bad (-1) hI hX0 ?_
      by_cases c : w < 10
      · have n1 : ¬ (¬ nI w < 10 ∧ ¬ 11 < nI w) := fun q => q.1 (nI_lt (b := 10) c (by omega))
        rw [m_if_neg n1, v_isPlaceM hM _ w c, mb_some, mp_some, b_X12_of_51, mi_b2, m_if_neg hh] at hM0
        exact hM0
      · have y1 : (¬ nI w < 10 ∧ ¬ 11 < nI w) := ⟨nI_nlt (b := 10) (by omega) (by omega), nI_nlt (a := 11) (by omega) (by omega)⟩
        have e : hnw n p w a1 = ix p a1 := by
          unfold hnw
          rw [if_neg (by omega), if_neg (by omega)]
        rw [e] at hh
        rw [m_if_pos y1, v_isPromise _ _ _ p (by omega) (MC_p hM), mb_some, mp_some, b_X12_of_16, mi_b2, m_if_neg hh] at hM0
        exact hM0
  · refine op_bad (-1) hI ?_ ?_
    · rw [b_X11_of_0]
      by_cases c : a2 < 0
      · rw [m_if_pos c]
      · rw [m_if_neg c, m_if_neg (fun c2 => h (ix12.mp ⟨c, c2⟩))]
    · have n1 : ¬ (¬ a2 < 10 ∧ ¬ 11 < a2) := fun q => h ((ix_le (n := 11) (by omega)).mp ⟨fun c1 => q.1 (by
        rw [Int32.lt_iff_toInt_lt] at c1 ⊢
        have e1 : (0 : Int32).toInt = 0 := by decide
        have e2 : (10 : Int32).toInt = 10 := by decide
        omega), q.2⟩)
      rw [b_X12_of_0, v_X12_in, mb_some, mp_some, b_X12_of_8, mi_b2, m_if_neg n1, v_isPlace_no hM _ _ _ (fun q => h (ix_mono q (by omega))), mb_some, mp_some, b_X12_of_51, m_if_pos rfl]
