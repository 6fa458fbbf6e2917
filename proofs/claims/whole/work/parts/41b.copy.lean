/-- the first places of a row become another's -/
def cpd (g : mG) (a b N : Nat) : mG := (fun c m => if c = b ∧ m < N then g.1 a m else g.1 c m, g.2)
theorem cpd_ne {g : mG} {a b N c m : Nat} (h : c ≠ b) : (cpd g a b N).1 c m = g.1 c m := if_neg (fun q => h q.1)
theorem cpd_at {g : mG} {a b N m : Nat} (h : m < N) : (cpd g a b N).1 b m = g.1 a m := if_pos ⟨rfl, h⟩
theorem cpd_hi {g : mG} {a b N m : Nat} (h : ¬ m < N) : (cpd g a b N).1 b m = g.1 b m := if_neg (fun q => h q.2)
theorem cpd_0 {g : mG} {a b : Nat} : cpd g a b 0 = g := Prod.ext (funext fun c => funext fun m => if_neg (by omega)) rfl
theorem cpd_s {g : mG} {a b i : Nat} (h : a ≠ b) : m_s1 (cpd g a b i) b i ((cpd g a b i).1 a i) = cpd g a b (i + 1) := by
  refine Prod.ext (funext fun c => funext fun m => ?_) rfl
  rw [s1_r, cpd_ne h]
  by_cases c1 : c = b
  · subst c1
    rw [if_pos rfl]
    by_cases c2 : m = i
    · rw [if_pos c2, cpd_at (by omega), c2]
    · rw [if_neg c2]
      by_cases c3 : m < i
      · rw [cpd_at c3, cpd_at (by omega)]
      · rw [cpd_hi c3, cpd_hi (by omega)]
  · rw [if_neg c1, cpd_ne c1, cpd_ne c1]
theorem v_copy0 (d : Nat) (g : mG) (N : Nat) (hN : N ≤ 6) : ev none d mm_X2_copy 0 [.ref 2, .ref 36, .int (nI N), .null] [] g = some (none, cpd g 2 36 N) := by
  rw [b_X2_copyc0_0]
  refine ok_eq (ok_loop (E := fun i (_ : Unit) g => ev none d mm_X2_copy 2 [.ref 2, .ref 36, .int (nI N), .int (nI i)] [] g) (I := fun i _ g' => g' = cpd g 2 36 i) (P := N) ?_ ?_ 0 () g (by omega) cpd_0.symm)
  · intro i _ g' hi hg next
    subst hg
    show Ok (ev none d mm_X2_copy 2 [.ref 2, .ref 36, .int (nI N), .int (nI i)] [] (cpd g 2 36 i)) _
    have c6 : nI i < (6 : Int32) := nI_lt (b := 6) (by omega) (by omega)
    rw [b_X2_copyc0_2, m_if_pos (nI_lt hi (by omega)), m_if_pos c6, m_if_pos c6, mi_nI (by omega) (by omega), mi_nI (by omega) (by omega), pk_cl i (hx := rfl), cpd_s (by decide), nI_1]
    exact next () _ rfl
  · intro _ g' hg
    subst hg
    show Ok (ev none d mm_X2_copy 2 [.ref 2, .ref 36, .int (nI N), .int (nI N)] [] (cpd g 2 36 N)) _
    rw [b_X2_copyc0_2, m_if_neg (nI_nlt (Nat.le_refl _) (by omega))]
    exact ok_some ⟨rfl, rfl⟩
theorem v_copy1 (d : Nat) (g : mG) (N : Nat) (hN : N ≤ 6) : ev none d mm_X2_copy 0 [.ref 3, .ref 37, .int (nI N), .null] [] g = some (none, cpd g 3 37 N) := by
  rw [b_X2_copyc1_0]
  refine ok_eq (ok_loop (E := fun i (_ : Unit) g => ev none d mm_X2_copy 2 [.ref 3, .ref 37, .int (nI N), .int (nI i)] [] g) (I := fun i _ g' => g' = cpd g 3 37 i) (P := N) ?_ ?_ 0 () g (by omega) cpd_0.symm)
  · intro i _ g' hi hg next
    subst hg
    show Ok (ev none d mm_X2_copy 2 [.ref 3, .ref 37, .int (nI N), .int (nI i)] [] (cpd g 3 37 i)) _
    have c6 : nI i < (6 : Int32) := nI_lt (b := 6) (by omega) (by omega)
    rw [b_X2_copyc1_2, m_if_pos (nI_lt hi (by omega)), m_if_pos c6, m_if_pos c6, mi_nI (by omega) (by omega), mi_nI (by omega) (by omega), pk_cl i (hx := rfl), cpd_s (by decide), nI_1]
    exact next () _ rfl
  · intro _ g' hg
    subst hg
    show Ok (ev none d mm_X2_copy 2 [.ref 3, .ref 37, .int (nI N), .int (nI N)] [] (cpd g 3 37 N)) _
    rw [b_X2_copyc1_2, m_if_neg (nI_nlt (Nat.le_refl _) (by omega))]
    exact ok_some ⟨rfl, rfl⟩
theorem v_copy2 (d : Nat) (g : mG) (N : Nat) (hN : N ≤ 6) : ev none d mm_X2_copy 0 [.ref 10, .ref 38, .int (nI N), .null] [] g = some (none, cpd g 10 38 N) := by
  rw [b_X2_copyc2_0]
  refine ok_eq (ok_loop (E := fun i (_ : Unit) g => ev none d mm_X2_copy 2 [.ref 10, .ref 38, .int (nI N), .int (nI i)] [] g) (I := fun i _ g' => g' = cpd g 10 38 i) (P := N) ?_ ?_ 0 () g (by omega) cpd_0.symm)
  · intro i _ g' hi hg next
    subst hg
    show Ok (ev none d mm_X2_copy 2 [.ref 10, .ref 38, .int (nI N), .int (nI i)] [] (cpd g 10 38 i)) _
    have c6 : nI i < (6 : Int32) := nI_lt (b := 6) (by omega) (by omega)
    rw [b_X2_copyc2_2, m_if_pos (nI_lt hi (by omega)), m_if_pos c6, m_if_pos c6, mi_nI (by omega) (by omega), mi_nI (by omega) (by omega), pk_cl i (hx := rfl), cpd_s (by decide), nI_1]
    exact next () _ rfl
  · intro _ g' hg
    subst hg
    show Ok (ev none d mm_X2_copy 2 [.ref 10, .ref 38, .int (nI N), .int (nI N)] [] (cpd g 10 38 N)) _
    rw [b_X2_copyc2_2, m_if_neg (nI_nlt (Nat.le_refl _) (by omega))]
    exact ok_some ⟨rfl, rfl⟩
theorem v_copy3 (d : Nat) (g : mG) (N : Nat) (hN : N ≤ 6) : ev none d mm_X2_copy 0 [.ref 36, .ref 2, .int (nI N), .null] [] g = some (none, cpd g 36 2 N) := by
  rw [b_X2_copyc3_0]
  refine ok_eq (ok_loop (E := fun i (_ : Unit) g => ev none d mm_X2_copy 2 [.ref 36, .ref 2, .int (nI N), .int (nI i)] [] g) (I := fun i _ g' => g' = cpd g 36 2 i) (P := N) ?_ ?_ 0 () g (by omega) cpd_0.symm)
  · intro i _ g' hi hg next
    subst hg
    show Ok (ev none d mm_X2_copy 2 [.ref 36, .ref 2, .int (nI N), .int (nI i)] [] (cpd g 36 2 i)) _
    have c6 : nI i < (6 : Int32) := nI_lt (b := 6) (by omega) (by omega)
    rw [b_X2_copyc3_2, m_if_pos (nI_lt hi (by omega)), m_if_pos c6, m_if_pos c6, mi_nI (by omega) (by omega), mi_nI (by omega) (by omega), pk_cl i (hx := rfl), cpd_s (by decide), nI_1]
    exact next () _ rfl
  · intro _ g' hg
    subst hg
    show Ok (ev none d mm_X2_copy 2 [.ref 36, .ref 2, .int (nI N), .int (nI N)] [] (cpd g 36 2 N)) _
    rw [b_X2_copyc3_2, m_if_neg (nI_nlt (Nat.le_refl _) (by omega))]
    exact ok_some ⟨rfl, rfl⟩
theorem v_copy4 (d : Nat) (g : mG) (N : Nat) (hN : N ≤ 6) : ev none d mm_X2_copy 0 [.ref 37, .ref 3, .int (nI N), .null] [] g = some (none, cpd g 37 3 N) := by
  rw [b_X2_copyc4_0]
  refine ok_eq (ok_loop (E := fun i (_ : Unit) g => ev none d mm_X2_copy 2 [.ref 37, .ref 3, .int (nI N), .int (nI i)] [] g) (I := fun i _ g' => g' = cpd g 37 3 i) (P := N) ?_ ?_ 0 () g (by omega) cpd_0.symm)
  · intro i _ g' hi hg next
    subst hg
    show Ok (ev none d mm_X2_copy 2 [.ref 37, .ref 3, .int (nI N), .int (nI i)] [] (cpd g 37 3 i)) _
    have c6 : nI i < (6 : Int32) := nI_lt (b := 6) (by omega) (by omega)
    rw [b_X2_copyc4_2, m_if_pos (nI_lt hi (by omega)), m_if_pos c6, m_if_pos c6, mi_nI (by omega) (by omega), mi_nI (by omega) (by omega), pk_cl i (hx := rfl), cpd_s (by decide), nI_1]
    exact next () _ rfl
  · intro _ g' hg
    subst hg
    show Ok (ev none d mm_X2_copy 2 [.ref 37, .ref 3, .int (nI N), .int (nI N)] [] (cpd g 37 3 N)) _
    rw [b_X2_copyc4_2, m_if_neg (nI_nlt (Nat.le_refl _) (by omega))]
    exact ok_some ⟨rfl, rfl⟩
theorem v_copy5 (d : Nat) (g : mG) (N : Nat) (hN : N ≤ 6) : ev none d mm_X2_copy 0 [.ref 38, .ref 10, .int (nI N), .null] [] g = some (none, cpd g 38 10 N) := by
  rw [b_X2_copyc5_0]
  refine ok_eq (ok_loop (E := fun i (_ : Unit) g => ev none d mm_X2_copy 2 [.ref 38, .ref 10, .int (nI N), .int (nI i)] [] g) (I := fun i _ g' => g' = cpd g 38 10 i) (P := N) ?_ ?_ 0 () g (by omega) cpd_0.symm)
  · intro i _ g' hi hg next
    subst hg
    show Ok (ev none d mm_X2_copy 2 [.ref 38, .ref 10, .int (nI N), .int (nI i)] [] (cpd g 38 10 i)) _
    have c6 : nI i < (6 : Int32) := nI_lt (b := 6) (by omega) (by omega)
    rw [b_X2_copyc5_2, m_if_pos (nI_lt hi (by omega)), m_if_pos c6, m_if_pos c6, mi_nI (by omega) (by omega), mi_nI (by omega) (by omega), pk_cl i (hx := rfl), cpd_s (by decide), nI_1]
    exact next () _ rfl
  · intro _ g' hg
    subst hg
    show Ok (ev none d mm_X2_copy 2 [.ref 38, .ref 10, .int (nI N), .int (nI N)] [] (cpd g 38 10 N)) _
    rw [b_X2_copyc5_2, m_if_neg (nI_nlt (Nat.le_refl _) (by omega))]
    exact ok_some ⟨rfl, rfl⟩
/-- two rows at once -/
theorem cpd_s2 {g : mG} {a b a2 b2 i : Nat} (h1 : a ≠ b) (h2 : a2 ≠ b2) (h3 : a2 ≠ b) (h4 : b ≠ b2) (h5 : a ≠ b2) : m_s1 (m_s1 (cpd (cpd g a b i) a2 b2 i) b i ((cpd (cpd g a b i) a2 b2 i).1 a i)) b2 i ((cpd (cpd g a b i) a2 b2 i).1 a2 i) = cpd (cpd g a b (i + 1)) a2 b2 (i + 1) := by
  refine Prod.ext (funext fun c => funext fun m => ?_) rfl
  rw [s1_r, cpd_ne h2, cpd_ne h3]
  by_cases c1 : c = b2
  · subst c1
    rw [if_pos rfl]
    by_cases c2 : m = i
    · rw [if_pos c2, cpd_at (by omega), cpd_ne h3, c2]
    · rw [if_neg c2, s1_ne (Ne.symm h4)]
      by_cases c3 : m < i
      · rw [cpd_at c3, cpd_at (by omega), cpd_ne h3, cpd_ne h3]
      · rw [cpd_hi c3, cpd_hi (by omega), cpd_ne (Ne.symm h4), cpd_ne (Ne.symm h4)]
  · rw [if_neg c1, cpd_ne (N := i + 1) c1, cpd_ne h5, cpd_ne h1, s1_r]
    by_cases c2 : c = b
    · subst c2
      rw [if_pos rfl]
      by_cases c3 : m = i
      · rw [if_pos c3, cpd_at (by omega), c3]
      · rw [if_neg c3, cpd_ne h4]
        by_cases c4 : m < i
        · rw [cpd_at c4, cpd_at (by omega)]
        · rw [cpd_hi c4, cpd_hi (by omega)]
    · rw [if_neg c2, cpd_ne c1, cpd_ne c2, cpd_ne c2]
