/-! SOUND (1): the pure state as a world of cells; locals; what the tables give -/
def m_fv (ad : Nat → Nat) (g : mG) (a k q : Nat) : Value := match q with
  | 0 => .int (g.1 a k)
  | 1 => .long (g.2 a k)
  | 2 => .int (g.1 a k)
  | j + 3 => .ref (ad j)
def m_fs (ad : Nat → Nat) (g : mG) (a : Nat) (fs : List Nat) : List Value := fs.mapIdx (fun k q => m_fv ad g a k q)
def m_e (ad : Nat → Nat) (cA : Nat → ClassId) (g : mG) (a : Nat) (q : mS) : va_E := match q with
  | (0, c, fs) => .inr (c, m_fs ad g a fs)
  | (4, n, _) => .inl (cA 3, n, .inr (.inl (g.2 a)))
  | (5, n, rs) => .inl (cA 4, n, .inr (.inr (.inr (.inr (fun k => (rs[k]?).map ad)))))
  | (t + 1, n, _) => .inl (cA t, n, .inl (g.1 a))
def m_w (ad : Nat → Nat) (cA : Nat → ClassId) (g : mG) : va_W := m_sh.mapIdx (fun a q => (ad a, m_e ad cA g a q))
theorem m_w_at {ad : Nat → Nat} {cA : Nat → ClassId} {g : mG} {a : Nat} {q : mS} (h : m_sh[a]? = some q) : (m_w ad cA g)[a]? = some (ad a, m_e ad cA g a q) := by
  unfold m_w
  rw [List.getElem?_mapIdx, h]
  rfl
theorem m_w_of {ad : Nat → Nat} {cA : Nat → ClassId} {g : mG} {a : Nat} {x : Nat × va_E} (h : (m_w ad cA g)[a]? = some x) : ∃ q, m_sh[a]? = some q ∧ x = (ad a, m_e ad cA g a q) := by
  unfold m_w at h
  rw [List.getElem?_mapIdx] at h
  cases hq : m_sh[a]? with
  | none => rw [hq] at h; cases h
  | some q => rw [hq] at h; exact ⟨q, rfl, (Option.some.inj h).symm⟩
theorem m_e_cong {ad : Nat → Nat} {cA : Nat → ClassId} {g g2 : mG} {a : Nat} {q : mS} (h1 : g2.1 a = g.1 a) (h2 : g2.2 a = g.2 a) : m_e ad cA g2 a q = m_e ad cA g a q := by
  unfold m_e m_fs m_fv
  rw [h1, h2]
theorem m_w_set {ad : Nat → Nat} {cA : Nat → ClassId} {g g2 : mG} {a : Nat} {q : mS} (h : m_sh[a]? = some q) (h1 : ∀ c, c ≠ a → g2.1 c = g.1 c) (h2 : ∀ c, c ≠ a → g2.2 c = g.2 c) : (m_w ad cA g).set a (ad a, m_e ad cA g2 a q) = m_w ad cA g2 := by
  apply List.ext_getElem?
  intro j
  by_cases hj : j = a
  · subst hj
    rw [m_w_at h, List.getElem?_set_self]
    exact (List.getElem?_eq_some_iff.mp (m_w_at h)).1
  · rw [List.getElem?_set_ne (fun e => hj e.symm)]
    unfold m_w
    rw [List.getElem?_mapIdx, List.getElem?_mapIdx]
    cases m_sh[j]? with
    | none => rfl
    | some q2 =>
      show some (ad j, m_e ad cA g j q2) = some (ad j, m_e ad cA g2 j q2)
      rw [m_e_cong (h1 j hj) (h2 j hj)]
def m_inj (ad : Nat → Nat) : Prop := ∀ i j, i < m_sh.length → j < m_sh.length → ad i = ad j → i = j
theorem m_lt {a : Nat} {q : mS} (h : m_sh[a]? = some q) : a < m_sh.length := (List.getElem?_eq_some_iff.mp h).1
theorem m_w_D {ad : Nat → Nat} {cA : Nat → ClassId} {g : mG} {A : Nat → Prop} (hi : m_inj ad) (hA : ∀ i, i < m_sh.length → A (ad i)) : va_D A (m_w ad cA g) := by
  refine ⟨fun i j p q h1 h2 e => ?_, fun k q h => ?_⟩
  · obtain ⟨x, hx, rfl⟩ := m_w_of h1
    obtain ⟨y, hy, rfl⟩ := m_w_of h2
    exact hi i j (m_lt hx) (m_lt hy) e
  · obtain ⟨x, hx, rfl⟩ := m_w_of h
    exact hA k (m_lt hx)
abbrev m_tys (cA : Nat → ClassId) : List (ClassId × FieldType) := [(cA 0, .int), (cA 1, .byte), (cA 2, .short), (cA 3, .long), (cA 4, .object "NailedByWord$Shelf")]
def m_isN (w : Jvm.Cond) : Bool := match w with
  | .fieldLinkNest _ _ _ _ _ _ => true
  | .methodLinkNest _ _ _ _ => true
  | _ => false
def m_K (D : va_G) (cA : Nat → ClassId) (ad : Nat → Nat) (A : Nat → Prop) (U : State) : Prop := va_K D vwCl (m_tys cA) U ∧ (∀ w ∈ lw_tbl, m_isN w = true → va_Nw w U) ∧
  ∀ (j c : Nat) (n d : String) (ty : FieldType) (vs : List Int32), m_sa[j]? = some (c, n, d, ty, vs) → va_Z (m_own c) n d (.ref (ad (1000 + j))) A U U.heap ∧ va_T ty (ad (1000 + j)) vs.length (fun k => .int (vs.getD k 0)) A U U.heap
theorem m_K.same {D : va_G} {cA : Nat → ClassId} {ad : Nat → Nat} {A : Nat → Prop} {u U : State} (h : m_K D cA ad A u) (hv : u.vm = U.vm) (hh : U.heap = u.heap) : m_K D cA ad A U := by
  have hal : u.vm.Alike U.vm := by rw [hv]; exact Vm.Alike.refl U.vm
  refine ⟨va_K.moved hal h.1, fun w hw hn => ?_, fun j c n d ty vs hj => ?_⟩
  · have h1 := h.2.1 w hw hn
    cases w <;> first | (simp [m_isN] at hn; done) | exact va_Nw.same rfl hv h1
  · rw [hh]
    exact ⟨(h.2.2 j c n d ty vs hj).1.moved hal, (h.2.2 j c n d ty vs hj).2.moved hal⟩
theorem m_K.warm {D : va_G} {cA : Nat → ClassId} {ad : Nat → Nat} {A B : Nat → Prop} {u U : State} (h : m_K D cA ad A u) (hW : u.WarmedH U.vm) (hq : ∀ a : Nat, a < u.heap.size → ¬ A a → U.heap[a]? = u.heap[a]?) (hB : ∀ q, B q → A q) : m_K D cA ad B U := by
  refine ⟨va_K.moved hW.alike h.1, fun w hw hn => ?_, fun j c n d ty vs hj => ?_⟩
  · have h1 := h.2.1 w hw hn
    cases w <;> first | (simp [m_isN] at hn; done) | exact va_Nw.warmF hW h1 | exact va_Nw.warmM hW h1
  · obtain ⟨h1, h2⟩ := h.2.2 j c n d ty vs hj
    exact ⟨((h1.moved hW.alike).kept hq).narrow hB, ((h2.moved hW.alike).kept hq).narrow hB⟩
/-! locals -/
def m_lv (ad : Nat → Nat) (ls : Array Slot) (n : Nat) (L : List Value) : Prop := ls.size = n ∧ L.length = n ∧ lv_wf ls ∧ ∀ (i : Nat) (v : Value), L[i]? = some v → v ≠ .null → ls[i]? = some (.val (m_tr ad v))
theorem m_tr_cat {ad : Nat → Nat} (v : Value) : (m_tr ad v).category = v.category := by cases v <;> rfl
def m_prs (ad : Nat → Nat) (L : List Value) : List (Nat × Value) := (L.mapIdx (fun i v => (i, v))).filterMap (fun q => if q.2 = .null then none else some (q.1, m_tr ad q.2))
theorem m_prs_in {ad : Nat → Nat} {L : List Value} {i : Nat} {v : Value} (h : L[i]? = some v) (hn : v ≠ .null) : (i, m_tr ad v) ∈ m_prs ad L := by
  unfold m_prs
  refine List.mem_filterMap.mpr ⟨(i, v), List.mem_of_getElem? (i := i) ?_, ?_⟩
  · rw [List.getElem?_mapIdx, h]; rfl
  · show (if v = .null then none else some (i, m_tr ad v)) = _
    rw [if_neg hn]
theorem m_prs_of {ad : Nat → Nat} {L : List Value} {q : Nat × Value} (h : q ∈ m_prs ad L) : ∃ v, L[q.1]? = some v ∧ v ≠ .null ∧ q.2 = m_tr ad v := by
  unfold m_prs at h
  obtain ⟨⟨i, v⟩, h1, h2⟩ := List.mem_filterMap.mp h
  obtain ⟨j, hj⟩ := List.getElem?_of_mem h1
  rw [List.getElem?_mapIdx] at hj
  cases hL : L[j]? with
  | none => rw [hL] at hj; cases hj
  | some v2 =>
    rw [hL] at hj
    have e : (j, v2) = (i, v) := Option.some.inj hj
    have e1 : j = i := congrArg Prod.fst e
    have e2 : v2 = v := congrArg Prod.snd e
    subst e1
    subst e2
    by_cases hn : v2 = .null
    · rw [if_pos hn] at h2; cases h2
    · rw [if_neg hn] at h2
      cases h2
      exact ⟨v2, hL, hn, rfl⟩
theorem m_lv.has {ad : Nat → Nat} {ls : Array Slot} {n : Nat} {L : List Value} (h : m_lv ad ls n L) : lv_has ls n (m_prs ad L) := by
  refine ⟨h.1, h.2.2.1, fun q hq => ?_⟩
  obtain ⟨v, h1, h2, h3⟩ := m_prs_of hq
  rw [h3]
  exact h.2.2.2 _ _ h1 h2
theorem m_lv.at {ad : Nat → Nat} {ls : Array Slot} {n : Nat} {L : List Value} (h : m_lv ad ls n L) {k : Nat} {v : Value} (hk : L[k]? = some v) (hn : v ≠ .null) : ls[k]? = some (.val (m_tr ad v)) := h.2.2.2 k v hk hn
theorem m_clob_len (L : List Value) (k : Nat) : (m_clob L k).length = L.length := by
  cases k with
  | zero => rfl
  | succ j =>
    unfold m_clob
    dsimp only
    split
    · split
      · exact List.length_set
      · rfl
    · rfl
theorem m_clob_at {L : List Value} {k i : Nat} {v : Value} (h : (m_clob L k)[i]? = some v) (hn : v ≠ .null) : L[i]? = some v ∧ ¬ (i + 1 = k ∧ v.category = 2) := by
  cases k with
  | zero => exact ⟨h, fun e => by omega⟩
  | succ j =>
    by_cases hij : i = j
    · subst hij
      unfold m_clob at h
      dsimp only at h
      cases hL : L[i]? with
      | none =>
        rw [hL] at h
        dsimp only at h
        rw [hL] at h
        cases h
      | some w =>
        rw [hL] at h
        dsimp only at h
        split at h
        · have hlt : i < L.length := (List.getElem?_eq_some_iff.mp hL).1
          rw [List.getElem?_set_self hlt] at h
          exact absurd (Option.some.inj h).symm hn
        · next hc =>
          rw [hL] at h
          cases h
          exact ⟨rfl, fun e => hc e.2⟩
    · have h2 : (m_clob L (j + 1))[i]? = L[i]? := by
        unfold m_clob
        dsimp only
        split
        · split
          · rw [List.getElem?_set_ne (fun e => hij e.symm)]
          · rfl
        · rfl
      rw [h2] at h
      exact ⟨h, fun e => by omega⟩
theorem m_st1_in {ad : Nat → Nat} {L : List Value} {k : Nat} {x : Value} {i : Nat} {v : Value} (h : (m_st1 L k x)[i]? = some v) (hn : v ≠ .null) : (i, m_tr ad v) ∈ ((k, m_tr ad x) :: (m_prs ad L).filter (fun q => !(q.1 == k) && !(q.1 + 1 == k && q.2.category == 2))) := by
  unfold m_st1 at h
  by_cases hik : i = k
  · subst hik
    have hlt : i < (m_clob L i).length := by
      have := (List.getElem?_eq_some_iff.mp h).1
      rwa [List.length_set] at this
    rw [List.getElem?_set_self hlt] at h
    cases h
    exact List.mem_cons_self
  · rw [List.getElem?_set_ne (fun e => hik e.symm)] at h
    obtain ⟨h1, h2⟩ := m_clob_at h hn
    refine List.mem_cons_of_mem _ (List.mem_filter.mpr ⟨m_prs_in h1 hn, ?_⟩)
    simp only [m_tr_cat]
    simp [hik]
    by_cases e : i + 1 = k
    · exact Or.inr (fun hc => h2 ⟨e, hc⟩)
    · exact Or.inl e
theorem m_st2_in {ad : Nat → Nat} {L : List Value} {k : Nat} {x : Value} {i : Nat} {v : Value} (h : (m_st2 L k x)[i]? = some v) (hn : v ≠ .null) : (i, m_tr ad v) ∈ ((k, m_tr ad x) :: (m_prs ad L).filter (fun q => !(q.1 == k) && (!(q.1 == k + 1) && !(q.1 + 1 == k && q.2.category == 2)))) := by
  unfold m_st2 at h
  by_cases hik : i = k + 1
  · subst hik
    have hlt : k + 1 < ((m_clob L k).set k x).length := by
      have := (List.getElem?_eq_some_iff.mp h).1
      rwa [List.length_set] at this
    rw [List.getElem?_set_self hlt] at h
    exact absurd (Option.some.inj h).symm hn
  · rw [List.getElem?_set_ne (fun e => hik e.symm)] at h
    by_cases hi : i = k
    · subst hi
      have hlt : i < (m_clob L i).length := by
        have := (List.getElem?_eq_some_iff.mp h).1
        rwa [List.length_set] at this
      rw [List.getElem?_set_self hlt] at h
      cases h
      exact List.mem_cons_self
    · rw [List.getElem?_set_ne (fun e => hi e.symm)] at h
      obtain ⟨h1, h2⟩ := m_clob_at h hn
      refine List.mem_cons_of_mem _ (List.mem_filter.mpr ⟨m_prs_in h1 hn, ?_⟩)
      simp only [m_tr_cat]
      simp [hi, hik]
      by_cases e : i + 1 = k
      · exact Or.inr (fun hc => h2 ⟨e, hc⟩)
      · exact Or.inl e
theorem m_lv.st1 {ad : Nat → Nat} {ls ls2 : Array Slot} {n k : Nat} {L : List Value} {x : Value} (h : m_lv ad ls n L) (h2 : lv_has ls2 n ((k, m_tr ad x) :: (m_prs ad L).filter (fun q => !(q.1 == k) && !(q.1 + 1 == k && q.2.category == 2)))) : m_lv ad ls2 n (m_st1 L k x) :=
  ⟨h2.1, by unfold m_st1; rw [List.length_set, m_clob_len]; exact h.2.1, h2.2.1, fun i v hi hn => h2.2.2 _ (m_st1_in hi hn)⟩
theorem m_lv.st2 {ad : Nat → Nat} {ls ls2 : Array Slot} {n k : Nat} {L : List Value} {x : Value} (h : m_lv ad ls n L) (h2 : lv_has ls2 n ((k, m_tr ad x) :: (m_prs ad L).filter (fun q => !(q.1 == k) && (!(q.1 == k + 1) && !(q.1 + 1 == k && q.2.category == 2))))) : m_lv ad ls2 n (m_st2 L k x) :=
  ⟨h2.1, by unfold m_st2; rw [List.length_set, List.length_set, m_clob_len]; exact h.2.1, h2.2.1, fun i v hi hn => h2.2.2 _ (m_st2_in hi hn)⟩
theorem m_sl_in {ad : Nat → Nat} : ∀ (vs : List Value) (b i : Nat) (v : Value), (m_sl vs)[i]? = some v → v ≠ .null → (b + i, m_tr ad v) ∈ lv_args b (vs.map (m_tr ad)) := by
  intro vs
  induction vs with
  | nil => intro b i v h; simp [m_sl] at h
  | cons x r ih =>
    intro b i v h hn
    unfold m_sl at h
    simp only [List.map_cons, lv_args, m_tr_cat]
    by_cases hc : x.category = 2
    · rw [hc] at h ⊢
      simp only [if_true]
      match i, h with
      | 0, h => cases h; exact List.mem_cons_self
      | 1, h => cases h; exact absurd rfl hn
      | i + 2, h =>
        have := ih (b + 2) i v h hn
        rw [show b + (i + 2) = b + 2 + i by omega]
        exact List.mem_cons_of_mem _ this
    · rw [if_neg hc]
      have h : (x :: m_sl r)[i]? = some v := by
        split at h
        · next e => exact absurd e hc
        · exact h
      match i, h with
      | 0, h => cases h; exact List.mem_cons_self
      | i + 1, h =>
        have := ih (b + 1) i v h hn
        rw [show b + (i + 1) = b + 1 + i by omega]
        exact List.mem_cons_of_mem _ this
theorem m_sl_len {ad : Nat → Nat} (vs : List Value) : (lg_sl (vs.map (m_tr ad))).length = (m_sl vs).length := by
  induction vs with
  | nil => rfl
  | cons x r ih =>
    unfold m_sl
    by_cases hc : x.category = 2
    · rw [hc]
      simp only [List.map_cons, lg_sl, List.flatMap_cons, m_tr_cat, hc, if_true, List.length_append, List.length_cons, List.length_nil]
      rw [lg_sl] at ih
      omega
    · split
      · next e => exact absurd e hc
      · simp only [List.map_cons, lg_sl, List.flatMap_cons, m_tr_cat, hc, if_false, List.length_append, List.length_cons, List.length_nil]
        rw [lg_sl] at ih
        omega
theorem m_lv.entry {ad : Nat → Nat} {vs : List Value} {n : Nat} (h : (m_sl vs).length ≤ n) : m_lv ad ((lg_sl (vs.map (m_tr ad)) ++ List.replicate (n - (lg_sl (vs.map (m_tr ad))).length) Slot.unset).toArray) n (m_ent n vs) := by
  have h1 := lv_entry (vs.map (m_tr ad)) (n := n) (by rw [m_sl_len]; exact h)
  refine ⟨h1.1, by unfold m_ent; simp; omega, h1.2.1, fun i v hi hn => h1.2.2 (i, m_tr ad v) ?_⟩
  unfold m_ent at hi
  by_cases hlt : i < (m_sl vs).length
  · rw [List.getElem?_append_left hlt] at hi
    have := m_sl_in (ad := ad) vs 0 i v hi hn
    rwa [Nat.zero_add] at this
  · rw [List.getElem?_append_right (by omega)] at hi
    exact absurd (List.eq_of_mem_replicate (List.mem_of_getElem? hi)) hn
