/-! what the constructors make -/
def b_X : List bE := match b_ex 400 4 cm_X11_init none 0 [.ref 0, .null] [] [(0, 11, b_def 11)] with
  | some q => q.2.2.2
  | none => []
def b_F : List bE := match b_ex 400 4 cm_X12_init none 0 [.ref 55] [] (b_X ++ [(0, 12, b_def 12)]) with
  | some q => q.2.2.2
  | none => []
theorem b_X_some : (b_ex 400 4 cm_X11_init none 0 [.ref 0, .null] [] [(0, 11, b_def 11)]).isSome = true := by decide +kernel
theorem b_F_some : (b_ex 400 4 cm_X12_init none 0 [.ref 55] [] (b_X ++ [(0, 12, b_def 12)])).isSome = true := by decide +kernel
theorem b_X_len : b_X.length = 55 := by decide +kernel
theorem b_F_len : b_F.length = 94 := by decide +kernel
theorem b_F_sl : b_sl b_F ≤ 10000 := by decide +kernel
theorem b_X_run : ∃ z, b_ex 400 4 cm_X11_init none 0 [.ref 0, .null] [] [(0, 11, b_def 11)] = some z ∧ z.2.2.2 = b_X := by
  obtain ⟨z, hz⟩ := Option.isSome_iff_exists.mp b_X_some
  refine ⟨z, hz, ?_⟩
  unfold b_X
  rw [hz]
theorem b_F_run : ∃ z, b_ex 400 4 cm_X12_init none 0 [.ref 55] [] (b_X ++ [(0, 12, b_def 12)]) = some z ∧ z.2.2.2 = b_F := by
  obtain ⟨z, hz⟩ := Option.isSome_iff_exists.mp b_F_some
  refine ⟨z, hz, ?_⟩
  unfold b_F
  rw [hz]
/-- the state of the fresh objects -/
def b_g1 (F : List bE) (a k : Nat) : Int32 := match F[a]? with
  | some q => b_i q.2.2 k
  | none => 0
def b_g2 (F : List bE) (a k : Nat) : Int64 := match F[a]? with
  | some q => b_l q.2.2 k
  | none => 0
theorem b_g1_at {F : List bE} {a : Nat} {r : bE} (h : F[a]? = some r) : b_g1 F a = b_i r.2.2 := by
  funext k
  unfold b_g1
  rw [h]
theorem b_g2_at {F : List bE} {a : Nat} {r : bE} (h : F[a]? = some r) : b_g2 F a = b_l r.2.2 := by
  funext k
  unfold b_g2
  rw [h]
def g0 : mG := (b_g1 b_F, b_g2 b_F)
def b_fc (q : Nat) (v : Value) : Bool := match q, v with
  | 0, .int _ => true
  | 2, .int _ => true
  | 1, .long _ => true
  | j + 3, .ref i => Nat.beq i j && Nat.blt j 94
  | _, _ => false
def b_fcs : List Nat → List Value → Bool
  | [], [] => true
  | q :: qs, v :: vs => b_fc q v && b_fcs qs vs
  | _, _ => false
def b_rc : List Nat → List Value → Bool
  | [], [] => true
  | j :: js, .ref i :: vs => (Nat.beq i j && Nat.blt j 94) && b_rc js vs
  | _, _ => false
def b_cmp (q : mS) (r : bE) : Bool := match q.1, r.1 with
  | 0, 0 => Nat.beq q.2.1 r.2.1 && b_fcs q.2.2 r.2.2
  | 4, 4 => Nat.beq q.2.1 r.2.1
  | 5, 5 => Nat.beq q.2.1 r.2.1 && b_rc q.2.2 r.2.2
  | 1, 1 => Nat.beq q.2.1 r.2.1
  | 2, 2 => Nat.beq q.2.1 r.2.1
  | 3, 3 => Nat.beq q.2.1 r.2.1
  | _, _ => false
theorem b_cmp_all : ((m_sh.zip b_F).all fun p => b_cmp p.1 p.2) = true := by decide +kernel
theorem m_sh_len : m_sh.length = 94 := by decide +kernel
theorem b_fcs_at : ∀ (fs : List Nat) (vs : List Value), b_fcs fs vs = true → fs.length = vs.length ∧ ∀ (k q : Nat) (v : Value), fs[k]? = some q → vs[k]? = some v → b_fc q v = true := by
  intro fs
  induction fs with
  | nil =>
    intro vs h
    cases vs with
    | nil => exact ⟨rfl, fun k q v h1 => by simp at h1⟩
    | cons v r => simp [b_fcs] at h
  | cons q fs ih =>
    intro vs h
    cases vs with
    | nil => simp [b_fcs] at h
    | cons v r =>
      simp only [b_fcs, Bool.and_eq_true] at h
      obtain ⟨h1, h2⟩ := ih r h.2
      refine ⟨by simp [h1], fun k q2 v2 h3 h4 => ?_⟩
      cases k with
      | zero =>
        simp at h3 h4
        subst h3
        subst h4
        exact h.1
      | succ k => exact h2 k q2 v2 (by simpa using h3) (by simpa using h4)
theorem b_rc_at : ∀ (js : List Nat) (vs : List Value), b_rc js vs = true → ∀ k : Nat, (js[k]? = none ∧ vs[k]? = none) ∨ ∃ j, js[k]? = some j ∧ vs[k]? = some (.ref j) ∧ j < 94 := by
  intro js
  induction js with
  | nil =>
    intro vs h k
    cases vs with
    | nil => exact Or.inl ⟨by simp, by simp⟩
    | cons v r => simp [b_rc] at h
  | cons j js ih =>
    intro vs h k
    cases vs with
    | nil => simp [b_rc] at h
    | cons v r =>
      cases v with
      | ref i =>
        simp only [b_rc, Bool.and_eq_true] at h
        cases k with
        | zero =>
          have e : i = j := Nat.eq_of_beq_eq_true h.1.1
          subst e
          exact Or.inr ⟨i, rfl, rfl, Nat.lt_of_lt_of_le (Nat.lt_succ_self i) (Nat.le_of_ble_eq_true h.1.2)⟩
        | succ k =>
          rcases ih r h.2 k with ⟨h1, h2⟩ | ⟨j2, h1, h2, h3⟩
          · exact Or.inl ⟨by simpa using h1, by simpa using h2⟩
          · exact Or.inr ⟨j2, by simpa using h1, by simpa using h2, h3⟩
      | _ => simp [b_rc] at h
theorem b_e_eq {ad : Nat → Nat} {b0 : Nat} {cA : Nat → ClassId} {g : mG} (had : ∀ i, i < 94 → ad i = b0 + i) {a : Nat} {q : mS} {r : bE} (hg1 : g.1 a = b_i r.2.2) (hg2 : g.2 a = b_l r.2.2) (h : b_cmp q r = true) : m_e ad cA g a q = b_e (b_ad b0) cA r := by
  obtain ⟨t, n, fs⟩ := q
  obtain ⟨t2, n2, vs⟩ := r
  dsimp only at hg1 hg2
  unfold b_cmp at h
  dsimp only at h
  split at h
  · rw [Bool.and_eq_true] at h
    have hn : n = n2 := Nat.eq_of_beq_eq_true h.1
    subst hn
    obtain ⟨hl, hc⟩ := b_fcs_at _ _ h.2
    suffices e : m_fs ad g a fs = vs.map (m_tr (b_ad b0)) by
      show (Sum.inr (n, m_fs ad g a fs) : va_E) = Sum.inr (n, vs.map (m_tr (b_ad b0)))
      rw [e]
    apply List.ext_getElem?
    intro k
    rw [List.getElem?_map]
    cases hf : fs[k]? with
    | none =>
      unfold m_fs
      rw [List.getElem?_mapIdx, hf]
      have : vs[k]? = none := by
        rw [List.getElem?_eq_none_iff] at hf ⊢
        omega
      rw [this]
      rfl
    | some q =>
      rw [m_fs_at hf]
      cases hv : vs[k]? with
      | none =>
        rw [List.getElem?_eq_none_iff] at hv
        have := (List.getElem?_eq_some_iff.mp hf).1
        omega
      | some v =>
        have h1 := hc k q v hf hv
        unfold b_fc at h1
        split at h1
        · next x =>
          show some (Value.int (g.1 a k)) = some (Value.int x)
          rw [hg1]
          unfold b_i
          rw [hv]
        · next x =>
          show some (Value.int (g.1 a k)) = some (Value.int x)
          rw [hg1]
          unfold b_i
          rw [hv]
        · next x =>
          show some (Value.long (g.2 a k)) = some (Value.long x)
          rw [hg2]
          unfold b_l
          rw [hv]
        · next j i =>
          rw [Bool.and_eq_true] at h1
          have e : i = j := Nat.eq_of_beq_eq_true h1.1
          have hj : j < 94 := Nat.lt_of_lt_of_le (Nat.lt_succ_self j) (Nat.le_of_ble_eq_true h1.2)
          subst e
          show some (Value.ref (ad i)) = some (Value.ref (b0 + i))
          rw [had i hj]
        · cases h1
  · have hn : n = n2 := Nat.eq_of_beq_eq_true h
    subst hn
    show (Sum.inl (cA 3, n, Sum.inr (Sum.inl (g.2 a))) : va_E) = Sum.inl (cA 3, n, Sum.inr (Sum.inl (b_l vs)))
    rw [hg2]
  · rw [Bool.and_eq_true] at h
    have hn : n = n2 := Nat.eq_of_beq_eq_true h.1
    subst hn
    show (Sum.inl (cA 4, n, Sum.inr (Sum.inr (Sum.inr (Sum.inr (fun k => (fs[k]?).map ad))))) : va_E) = Sum.inl (cA 4, n, Sum.inr (Sum.inr (Sum.inr (Sum.inr (b_r (b_ad b0) vs)))))
    have e : (fun k : Nat => (fs[k]?).map ad) = b_r (b_ad b0) vs := by
      funext k
      unfold b_r
      rcases b_rc_at _ _ h.2 k with ⟨h1, h2⟩ | ⟨j, h1, h2, h3⟩
      · rw [h1, h2]
        rfl
      · rw [h1, h2]
        show some (ad j) = some (b0 + j)
        rw [had j h3]
    rw [e]
  · have hn : n = n2 := Nat.eq_of_beq_eq_true h
    subst hn
    show (Sum.inl (cA 0, n, Sum.inl (g.1 a)) : va_E) = Sum.inl (cA 0, n, Sum.inl (b_i vs))
    rw [hg1]
  · have hn : n = n2 := Nat.eq_of_beq_eq_true h
    subst hn
    show (Sum.inl (cA 1, n, Sum.inl (g.1 a)) : va_E) = Sum.inl (cA 1, n, Sum.inl (b_i vs))
    rw [hg1]
  · have hn : n = n2 := Nat.eq_of_beq_eq_true h
    subst hn
    show (Sum.inl (cA 2, n, Sum.inl (g.1 a)) : va_E) = Sum.inl (cA 2, n, Sum.inl (b_i vs))
    rw [hg1]
  · cases h
theorem b_w_eqF {F : List bE} {M : List mS} {ad : Nat → Nat} {b0 : Nat} {cA : Nat → ClassId} (hM : M.length = 94) (hF : F.length = 94) (hc : ((M.zip F).all fun p => b_cmp p.1 p.2) = true) (had : ∀ i, i < 94 → ad i = b0 + i) : M.mapIdx (fun a q => (ad a, m_e ad cA (b_g1 F, b_g2 F) a q)) = b_w (b_ad b0) cA F := by
  apply List.ext_getElem?
  intro a
  rcases Nat.lt_or_ge a 94 with ha | ha
  · obtain ⟨q, h1⟩ : ∃ q, M[a]? = some q := ⟨_, List.getElem?_eq_getElem (by rw [hM]; exact ha)⟩
    obtain ⟨r, h2⟩ : ∃ r, F[a]? = some r := ⟨_, List.getElem?_eq_getElem (by rw [hF]; exact ha)⟩
    have h3 : (M.zip F)[a]? = some (q, r) := by
      rw [List.getElem?_zip_eq_some]
      exact ⟨h1, h2⟩
    have h4 := List.all_eq_true.mp hc _ (List.mem_of_getElem? h3)
    rw [b_w_at h2, List.getElem?_mapIdx, h1]
    show some (ad a, m_e ad cA (b_g1 F, b_g2 F) a q) = _
    rw [b_e_eq (g := (b_g1 F, b_g2 F)) had (b_g1_at h2) (b_g2_at h2) h4, had a ha]
    rfl
  · rw [List.getElem?_eq_none (by rw [List.length_mapIdx, hM]; exact ha), List.getElem?_eq_none (by rw [b_w_len, hF]; exact ha)]
theorem b_w_eq {ad : Nat → Nat} {b0 : Nat} {cA : Nat → ClassId} (had : ∀ i, i < 94 → ad i = b0 + i) : m_w ad cA g0 = b_w (b_ad b0) cA b_F := b_w_eqF m_sh_len b_F_len b_cmp_all had
