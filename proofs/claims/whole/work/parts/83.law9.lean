/-! LAW (9): what formulas are worth -/
theorem t_dm1 (x : Int32) : x / -1 = -x := by
  apply Int32.toInt_inj.mp
  rw [Int32.toInt_div, show (-1 : Int32).toInt = -1 by decide, Int.tdiv_neg, Int.tdiv_one, Int32.toInt_neg]
theorem t_rm1 (x : Int32) : x - x / -1 * -1 = 0 := by
  rw [t_dm1, Int32.neg_mul, Int32.mul_neg, Int32.mul_one, Int32.neg_neg, Int32.sub_self]
noncomputable def tb2 (c : Nat) (x y : Int32) : Int32 := if c = 37 then (if y = 0 then 0 else x - x / y * y) else if c = 38 then b2 (¬ x = 0 ∧ ¬ y = 0) else if c = 42 then x * y else if c = 43 then x + y else if c = 45 then x - y else if c = 47 then (if y = 0 then 0 else x / y) else if c = 60 then b2 (x < y) else if c = 61 then b2 (x = y) else if c = 62 then b2 (y < x) else b2 (¬ x = 0 ∨ ¬ y = 0)
noncomputable def tu1 (c : Nat) (x : Int32) : Int32 := if c = 3 then b2 (x = 0) else -x
theorem t_an2 {x y : Int32} {g : mG} : m_if (x = 0) (some (some (Value.int 0), g)) (m_if (y = 0) (some (some (Value.int 0), g)) (some (some (Value.int 1), g))) = some (some (Value.int (b2 (¬ x = 0 ∧ ¬ y = 0))), g) := by
  rw [mi_ft, mi_f2]
theorem t_or2 {x y : Int32} {g : mG} : m_if (x = 0) (m_if (y = 0) (some (some (Value.int 0), g)) (some (some (Value.int 1), g))) (some (some (Value.int 1), g)) = some (some (Value.int (b2 (¬ x = 0 ∨ ¬ y = 0))), g) := by
  by_cases h : x = 0
  · rw [m_if_pos h, mi_ft, b2_c (c := ¬ x = 0 ∨ ¬ y = 0) (e := ¬ y = 0) ⟨fun z => z.resolve_left (fun k => k h), Or.inr⟩]
  · rw [m_if_neg h, b2_t (Or.inl h)]
theorem t_if {y v : Int32} {g : mG} : m_if (y = 0) (some (some (Value.int 0), g)) (if y = 0 then none else some (some (Value.int v), g)) = some (some (Value.int (if y = 0 then 0 else v)), g) := by
  by_cases h : y = 0
  · rw [m_if_pos h, if_pos h]
  · rw [m_if_neg h, if_neg h, if_neg h]
theorem t_if1 {y v w : Int32} {g : mG} (hw : y = -1 → w = v) : m_if (y = 0) (some (some (Value.int 0), g)) (m_if (y = -1) (some (some (Value.int w), g)) (if y = 0 then none else some (some (Value.int v), g))) = some (some (Value.int (if y = 0 then 0 else v)), g) := by
  by_cases h : y = 0
  · rw [m_if_pos h, if_pos h]
  · rw [m_if_neg h, if_neg h]
    by_cases h1 : y = -1
    · rw [m_if_pos h1, hw h1, if_neg h]
    · rw [m_if_neg h1, if_neg h]
theorem v_joined {c : Nat} (hc : tbo c) (d : Nat) (g : mG) (x y : Int32) : ev none d mm_X3_joined 0 [.int (-nI c), .int x, .int y] [] g = some (some (.int (tb2 c x y)), g) := by
  rw [b_X3_joined_0]
  rcases hc with rfl | rfl | rfl | rfl | rfl | rfl | rfl | rfl | rfl | rfl
  · iterate 1 rw [m_if_neg (by decide)]
    rw [m_if_pos (by decide), t_if]; rfl
  · iterate 2 rw [m_if_neg (by decide)]
    rw [m_if_pos (by decide), t_an2]; rfl
  · iterate 3 rw [m_if_neg (by decide)]
    rw [m_if_pos (by decide)]; rfl
  · iterate 4 rw [m_if_neg (by decide)]
    rw [m_if_pos (by decide)]; rfl
  · iterate 5 rw [m_if_neg (by decide)]
    rw [m_if_pos (by decide)]; rfl
  · iterate 6 rw [m_if_neg (by decide)]
    rw [m_if_pos (by decide), t_if]; rfl
  · iterate 7 rw [m_if_neg (by decide)]
    rw [m_if_pos (by decide), mi_tt]; rfl
  · iterate 8 rw [m_if_neg (by decide)]
    rw [m_if_pos (by decide), mi_tt]; rfl
  · iterate 9 rw [m_if_neg (by decide)]
    rw [m_if_pos (by decide), mi_tt]; rfl
  · iterate 10 rw [m_if_neg (by decide)]
    rw [m_if_pos (by decide), t_or2]; rfl
theorem v_joined3 (d : Nat) (g : mG) (x y : Int32) : ev none d mm_X3_joined 0 [.int (-33), .int x, .int y] [] g = some (some (.int (tu1 3 y)), g) := by
  rw [b_X3_joined_0, m_if_pos (by decide), mi_tt]; rfl
theorem v_joined4 (d : Nat) (g : mG) (y : Int32) : ev none d mm_X3_joined 0 [.int (-126), .int 0, .int y] [] g = some (some (.int (tu1 4 y)), g) := by
  rw [b_X3_joined_0]
  iterate 11 rw [m_if_neg (by decide)]
  rw [m_if_pos (by decide), Int32.zero_sub]; rfl
theorem v_twoOf {c : Nat} (hc : tbo c) (d : Nat) (g : mG) (x y : Int32) : ev none d mm_X12_twoOf 0 [.int (nI c), .int x, .int y] [] g = some (some (.int (tb2 c x y)), g) := by
  rw [b_X12_twoOf_0]
  rcases hc with rfl | rfl | rfl | rfl | rfl | rfl | rfl | rfl | rfl | rfl
  · rw [m_if_pos (by decide), t_if1 (fun e => by rw [e, t_rm1])]; rfl
  · iterate 1 rw [m_if_neg (by decide)]
    rw [m_if_pos (by decide), t_an2]; rfl
  · iterate 5 rw [m_if_neg (by decide)]
    rw [m_if_pos (by decide)]; rfl
  · iterate 6 rw [m_if_neg (by decide)]
    rw [m_if_pos (by decide)]; rfl
  · iterate 8 rw [m_if_neg (by decide)]
    rw [m_if_pos (by decide)]; rfl
  · iterate 10 rw [m_if_neg (by decide)]
    rw [m_if_pos (by decide), t_if1 (fun e => by rw [e, t_dm1])]; rfl
  · iterate 23 rw [m_if_neg (by decide)]
    rw [m_if_pos (by decide), mi_tt]; rfl
  · iterate 24 rw [m_if_neg (by decide)]
    rw [m_if_pos (by decide), mi_tt]; rfl
  · iterate 25 rw [m_if_neg (by decide)]
    rw [m_if_pos (by decide), mi_tt]; rfl
  · iterate 26 rw [m_if_neg (by decide)]
    rw [b_X12_twoOf_218, t_or2]; rfl
/-- one step on a stack -/
noncomputable def tst (F : Nat → Int32) (s : TS) (p : Nat × (Nat → Int32)) : Nat × (Nat → Int32) := if s.1 = 1 then (p.1 + 1, upd p.2 p.1 (nI s.2)) else if s.1 = 2 then (p.1 + 1, upd p.2 p.1 (F s.2)) else if s.1 = 3 ∨ s.1 = 4 then (p.1, upd p.2 (p.1 - 1) (tu1 s.1 (p.2 (p.1 - 1)))) else (p.1 - 1, upd p.2 (p.1 - 2) (tb2 s.1 (p.2 (p.1 - 2)) (p.2 (p.1 - 1))))
noncomputable def trn (F : Nat → Int32) : List TS → Nat × (Nat → Int32) → Nat × (Nat → Int32)
  | [], p => p
  | s :: l, p => trn F l (tst F s p)
/-- a formula's worth -/
noncomputable def tva (F : Nat → Int32) (e : List TS) : Int32 := (trn F e (0, fun _ => 0)).2 0
theorem trn_n {F : Nat → Int32} : ∀ (l : List TS) (p : Nat × (Nat → Int32)) (m : Nat), tdq l p.1 m → (trn F l p).1 = m := by
  intro l
  induction l with
  | nil =>
    intro p m h
    exact h
  | cons s l ih =>
    intro p m h
    have h3 : if s.1 = 1 ∨ s.1 = 2 then tdq l (p.1 + 1) m else if s.1 = 3 ∨ s.1 = 4 then 1 ≤ p.1 ∧ tdq l p.1 m else 2 ≤ p.1 ∧ tdq l (p.1 - 1) m := h
    show (trn F l (tst F s p)).1 = m
    refine ih _ _ ?_
    unfold tst
    by_cases c1 : s.1 = 1
    · rw [if_pos (Or.inl c1)] at h3
      rw [if_pos c1]; exact h3
    · by_cases c2 : s.1 = 2
      · rw [if_pos (Or.inr c2)] at h3
        rw [if_neg c1, if_pos c2]; exact h3
      · rw [if_neg (fun z => z.elim c1 c2)] at h3
        rw [if_neg c1, if_neg c2]
        by_cases c3 : s.1 = 3 ∨ s.1 = 4
        · rw [if_pos c3] at h3 ⊢
          exact h3.2
        · rw [if_neg c3] at h3 ⊢
          exact h3.2
