/-! The machine that makes cells is sound -/
theorem b_w_at {ad : Nat → Nat} {cA : Nat → ClassId} {hp : List bE} {a : Nat} {q : bE} (h : hp[a]? = some q) : (b_w ad cA hp)[a]? = some (ad a, b_e ad cA q) := by
  unfold b_w
  rw [List.getElem?_mapIdx, h]
  rfl
theorem b_w_of {ad : Nat → Nat} {cA : Nat → ClassId} {hp : List bE} {a : Nat} {x : Nat × va_E} (h : (b_w ad cA hp)[a]? = some x) : ∃ q, hp[a]? = some q ∧ x = (ad a, b_e ad cA q) := by
  unfold b_w at h
  rw [List.getElem?_mapIdx] at h
  cases hq : hp[a]? with
  | none => rw [hq] at h; cases h
  | some q => rw [hq] at h; exact ⟨q, rfl, (Option.some.inj h).symm⟩
theorem b_w_set {ad : Nat → Nat} {cA : Nat → ClassId} {hp : List bE} {a : Nat} {q q2 : bE} (h : hp[a]? = some q) : (b_w ad cA hp).set a (ad a, b_e ad cA q2) = b_w ad cA (hp.set a q2) := by
  have hlt : a < hp.length := (List.getElem?_eq_some_iff.mp h).1
  apply List.ext_getElem?
  intro j
  by_cases hj : j = a
  · subst hj
    rw [List.getElem?_set_self (List.getElem?_eq_some_iff.mp (b_w_at h)).1, b_w_at (List.getElem?_set_self hlt)]
  · rw [List.getElem?_set_ne (fun e => hj e.symm)]
    unfold b_w
    rw [List.getElem?_mapIdx, List.getElem?_mapIdx, List.getElem?_set_ne (fun e => hj e.symm)]
theorem b_w_app {ad : Nat → Nat} {cA : Nat → ClassId} {hp : List bE} {q : bE} : b_w ad cA (hp ++ [q]) = b_w ad cA hp ++ [(ad hp.length, b_e ad cA q)] := by
  unfold b_w
  rw [List.mapIdx_append]
  simp
def b_ad (b0 : Nat) : Nat → Nat := fun i => b0 + i
theorem b_w_D {b0 : Nat} {cA : Nat → ClassId} {hp : List bE} : va_D (fun q => b0 ≤ q) (b_w (b_ad b0) cA hp) := by
  refine ⟨fun i j p q h1 h2 e => ?_, fun k q h => ?_⟩
  · obtain ⟨x, hx, rfl⟩ := b_w_of h1
    obtain ⟨y, hy, rfl⟩ := b_w_of h2
    have e : b0 + i = b0 + j := e
    omega
  · obtain ⟨x, hx, rfl⟩ := b_w_of h
    exact Nat.le_add_right b0 k
theorem b_sl_app {hp : List bE} {q : bE} : b_sl (hp ++ [q]) = b_sl hp + b_sz q := by
  unfold b_sl
  simp
theorem b_sl_set {hp : List bE} {a : Nat} {q q2 : bE} (h : hp[a]? = some q) (hz : b_sz q2 = b_sz q) : b_sl (hp.set a q2) = b_sl hp := by
  unfold b_sl
  congr 1
  apply List.ext_getElem?
  intro j
  have hlt : a < hp.length := (List.getElem?_eq_some_iff.mp h).1
  rw [List.getElem?_map, List.getElem?_map]
  by_cases hj : j = a
  · subst hj
    rw [List.getElem?_set_self hlt, h]
    exact congrArg some hz
  · rw [List.getElem?_set_ne (fun e => hj e.symm)]
theorem b_set_at {d : Value} {vs : List Value} {i j : Nat} {x : Value} : (b_set d vs i x)[j]? = if j = i then some x else if j < vs.length then vs[j]? else if j < i then some d else none := by
  unfold b_set
  by_cases hj : j = i
  · subst hj
    rw [if_pos rfl, List.getElem?_set_self (by rw [List.length_append, List.length_replicate]; omega)]
  · rw [if_neg hj, List.getElem?_set_ne (fun e => hj e.symm)]
    by_cases hl : j < vs.length
    · rw [if_pos hl, List.getElem?_append_left hl]
    · rw [if_neg hl, List.getElem?_append_right (by omega), List.getElem?_replicate]
      by_cases hi : j < i
      · rw [if_pos hi, if_pos (by omega)]
      · rw [if_neg hi, if_neg (by omega)]
theorem b_i_set {vs : List Value} {i : Nat} {x : Int32} : b_i (b_set (.int 0) vs i (.int x)) = upd (b_i vs) i x := by
  funext j
  show (match (b_set (.int 0) vs i (.int x))[j]? with
    | some (.int y) => y
    | _ => 0) = if j = i then x else (match vs[j]? with
    | some (.int y) => y
    | _ => 0)
  rw [b_set_at]
  by_cases hj : j = i
  · rw [if_pos hj, if_pos hj]
  · rw [if_neg hj, if_neg hj]
    by_cases hl : j < vs.length
    · rw [if_pos hl]
    · have e : vs[j]? = none := List.getElem?_eq_none (by omega)
      rw [if_neg hl, e]
      by_cases hi : j < i
      · rw [if_pos hi]
      · rw [if_neg hi]
theorem b_r_set {ad : Nat → Nat} {vs : List Value} {i x : Nat} : b_r ad (b_set .null vs i (.ref x)) = va_up (b_r ad vs) i (some (ad x)) := by
  funext j
  show (match (b_set .null vs i (.ref x))[j]? with
    | some (.ref y) => some (ad y)
    | _ => none) = if j = i then some (ad x) else (match vs[j]? with
    | some (.ref y) => some (ad y)
    | _ => none)
  rw [b_set_at]
  by_cases hj : j = i
  · rw [if_pos hj, if_pos hj]
  · rw [if_neg hj, if_neg hj]
    by_cases hl : j < vs.length
    · rw [if_pos hl]
    · have e : vs[j]? = none := List.getElem?_eq_none (by omega)
      rw [if_neg hl, e]
      by_cases hi : j < i
      · rw [if_pos hi]
      · rw [if_neg hi]
theorem b_def_len {k : Nat} {q : vw_C} (h : vwCl[k]? = some q) : (b_def k).length = q.2.2 ∧ k < 13 := by
  match k, h with
  | 0, h => cases h; exact ⟨rfl, by omega⟩
  | 1, h => cases h; exact ⟨rfl, by omega⟩
  | 2, h => cases h; exact ⟨rfl, by omega⟩
  | 3, h => cases h; exact ⟨rfl, by omega⟩
  | 4, h => cases h; exact ⟨rfl, by omega⟩
  | 5, h => cases h; exact ⟨rfl, by omega⟩
  | 6, h => cases h; exact ⟨rfl, by omega⟩
  | 7, h => cases h; exact ⟨rfl, by omega⟩
  | 8, h => cases h; exact ⟨rfl, by omega⟩
  | 9, h => cases h; exact ⟨rfl, by omega⟩
  | 10, h => cases h; exact ⟨rfl, by omega⟩
  | 11, h => cases h; exact ⟨rfl, by omega⟩
  | 12, h => cases h; exact ⟨rfl, by omega⟩
  | n + 13, h => cases h
theorem b_fit_ok {ad : Nat → Nat} {ty : FieldType} {v : Value} (h : b_fit ty v = true) : narrow ty (m_tr ad v) = m_tr ad v ∧ fits ty (m_tr ad v) = true := by
  unfold b_fit at h
  split at h
  · exact ⟨rfl, rfl⟩
  · next x =>
    rcases of_decide_eq_true h with rfl | rfl
    · exact ⟨rfl, rfl⟩
    · exact ⟨rfl, rfl⟩
  · exact ⟨rfl, rfl⟩
  · exact ⟨rfl, rfl⟩
  · cases h
def b_K (D : va_G) (cA : Nat → ClassId) (U : State) : Prop := va_K D vwCl (m_tys cA) U ∧ (∀ w ∈ lw_tbl, m_isN w = true → va_Nw w U) ∧ va_AO "NailedByWord$Shelf" U
theorem b_K.same {D : va_G} {cA : Nat → ClassId} {u U : State} (h : b_K D cA u) (hv : u.vm = U.vm) : b_K D cA U := by
  have hal : u.vm.Alike U.vm := by rw [hv]; exact Vm.Alike.refl U.vm
  refine ⟨va_K.moved hal h.1, fun w hw hn => ?_, h.2.2.moved hal⟩
  have h1 := h.2.1 w hw hn
  cases w <;> first | (simp [m_isN] at hn; done) | exact va_Nw.same rfl hv h1
theorem b_K.warm {D : va_G} {cA : Nat → ClassId} {u U : State} (h : b_K D cA u) (hW : u.WarmedH U.vm) : b_K D cA U := by
  refine ⟨va_K.moved hW.alike h.1, fun w hw hn => ?_, h.2.2.moved hW.alike⟩
  have h1 := h.2.1 w hw hn
  cases w <;> first | (simp [m_isN] at hn; done) | exact va_Nw.warmF hW h1 | exact va_Nw.warmM hW h1
theorem b_def_tr {ad : Nat → Nat} (k : Nat) : (b_def k).map (m_tr ad) = b_def k := by
  unfold b_def
  split <;> rfl
theorem b_w_len {ad : Nat → Nat} {cA : Nat → ClassId} {hp : List bE} : (b_w ad cA hp).length = hp.length := by
  unfold b_w
  rw [List.length_mapIdx]
/-- the room tells how far the heap reaches -/
theorem W_sz {p : Program} {l : Launch} {e : Env} {R : Room} {s : State} {m : MethodId} {args : Array Value} {below : List Frame} {meth : Method} {c : Code} {H : Heap} {locs : List Loc} {cells slots : Nat} {Q : State → Prop} {g : JFrame} (k : H.size ≤ s.heap.size + cells → W p l e R s m args below meth c H locs cells slots Q g) : W p l e R s m args below meth c H locs cells slots Q g := fun T hT X => k (by rw [← hT]; exact X.heapSize) T hT X
theorem b_q {D : va_G} {b0 : Nat} {cA : Nat → ClassId} {hp : List bE} {q : Nat} {x : va_E} {H1 : Heap} (hP : va_P D vwCl (b_w (b_ad b0) cA hp ++ [(q, x)]) H1) (hD : va_D (fun q => b0 ≤ q) (b_w (b_ad b0) cA hp ++ [(q, x)])) (hz : H1.size ≤ b0 + hp.length + 1) : q = b_ad b0 hp.length := by
  have hat : (b_w (b_ad b0) cA hp ++ [(q, x)])[hp.length]? = some (q, x) := by
    rw [List.getElem?_append_right (by rw [b_w_len]; exact Nat.le_refl _), b_w_len, Nat.sub_self]
    rfl
  have h1 : q < H1.size := (hP _ _ hat).lt
  have h2 : b0 ≤ q := hD.2 _ _ hat
  rcases Nat.lt_or_ge q (b0 + hp.length) with h3 | h3
  · have h4 : q - b0 < hp.length := by omega
    have h5 : (b_w (b_ad b0) cA hp ++ [(q, x)])[q - b0]? = some (b_ad b0 (q - b0), b_e (b_ad b0) cA (hp[q - b0])) := by
      rw [List.getElem?_append_left (by rw [b_w_len]; exact h4)]
      exact b_w_at (List.getElem?_eq_getElem h4)
    have h6 := hD.1 _ _ _ _ h5 hat (by show b0 + (q - b0) = q; omega)
    omega
  · show q = b0 + hp.length
    omega
theorem b_ge {D : va_G} {b0 : Nat} {cA : Nat → ClassId} {hp : List bE} {H : Heap} (hP : va_P D vwCl (b_w (b_ad b0) cA hp) H) (h0 : b0 ≤ H.size) : b0 + hp.length ≤ H.size := by
  cases hl : hp.length with
  | zero => exact h0
  | succ n =>
    have h4 : n < hp.length := by omega
    have h5 := (hP n _ (b_w_at (List.getElem?_eq_getElem h4))).lt
    have h6 : b0 + n < H.size := h5
    omega
theorem b_xs_grow {β : Type} {o : mO} {L S : List Value} {hp : List bE} {κ : Nat → List Value → List Value → List bE → Option β} {z : β} (h : b_xs o L S hp κ = some z) : ∃ pc L2 S2 hp2, κ pc L2 S2 hp2 = some z ∧ hp.length ≤ hp2.length ∧ b_sl hp ≤ b_sl hp2 := by
  obtain ⟨pc, i, len, k, v, w, ts⟩ := o
  cases i with
  | iconst n => exact ⟨_, _, _, hp, h, Nat.le_refl _, Nat.le_refl _⟩
  | bipush n => exact ⟨_, _, _, hp, h, Nat.le_refl _, Nat.le_refl _⟩
  | sipush n => exact ⟨_, _, _, hp, h, Nat.le_refl _, Nat.le_refl _⟩
  | goto off => exact ⟨_, _, _, hp, h, Nat.le_refl _, Nat.le_refl _⟩
  | aload_n n => obtain ⟨x, -, h⟩ := m_qa_inv h; exact ⟨_, _, _, hp, h, Nat.le_refl _, Nat.le_refl _⟩
  | iload_n n => obtain ⟨x, -, h⟩ := m_qi_inv h; exact ⟨_, _, _, hp, h, Nat.le_refl _, Nat.le_refl _⟩
  | iinc n q => obtain ⟨x, -, h⟩ := m_qi_inv h; exact ⟨_, _, _, hp, h, Nat.le_refl _, Nat.le_refl _⟩
  | istore_n n => obtain ⟨x, t, -, h⟩ := m_pi_inv h; exact ⟨_, _, _, hp, h, Nat.le_refl _, Nat.le_refl _⟩
  | astore_n n => obtain ⟨x, t, -, h⟩ := m_pa_inv h; exact ⟨_, _, _, hp, h, Nat.le_refl _, Nat.le_refl _⟩
  | dup =>
    cases S with
    | nil => cases h
    | cons x t =>
      replace h : (match x.category with | 1 => κ (pc + 1) L (x :: x :: t) hp | _ => none) = some z := h
      split at h
      · exact ⟨_, _, _, hp, h, Nat.le_refl _, Nat.le_refl _⟩
      · cases h
  | if_icmp cnd off =>
    cases cnd with
    | ge =>
      obtain ⟨y, t, -, h⟩ := m_pi_inv h
      obtain ⟨x, t, -, h⟩ := m_pi_inv h
      split at h
      · exact ⟨_, _, _, hp, h, Nat.le_refl _, Nat.le_refl _⟩
      · exact ⟨_, _, _, hp, h, Nat.le_refl _, Nat.le_refl _⟩
    | _ => cases h
  | new idx => exact ⟨_, _, _, _, h, by simp, by rw [b_sl_app]; omega⟩
  | newarray t =>
    obtain ⟨n, t, -, h⟩ := m_pi_inv h
    split at h
    · cases h
    · exact ⟨_, _, _, _, h, by simp, by rw [b_sl_app]; omega⟩
  | anewarray idx =>
    obtain ⟨n, t, -, h⟩ := m_pi_inv h
    split at h
    · cases h
    · exact ⟨_, _, _, _, h, by simp, by rw [b_sl_app]; omega⟩
  | putfield idx =>
    cases S with
    | nil => cases h
    | cons x t =>
      obtain ⟨a, t, -, h⟩ := m_pa_inv h
      split at h
      · next c fs hs =>
        split at h
        · next hc => exact ⟨_, _, _, _, h, by rw [List.length_set]; omega, by rw [b_sl_set hs (by simp [b_sz])]; omega⟩
        · cases h
      · cases h
  | getfield idx =>
    obtain ⟨a, t, -, h⟩ := m_pa_inv h
    split at h
    · split at h
      · split at h
        · exact ⟨_, _, _, hp, h, Nat.le_refl _, Nat.le_refl _⟩
        · cases h
      · cases h
    · cases h
  | iastore =>
    obtain ⟨x, t, -, h⟩ := m_pi_inv h
    obtain ⟨i, t, -, h⟩ := m_pi_inv h
    obtain ⟨a, t, -, h⟩ := m_pa_inv h
    split at h
    · next n vs hs =>
      split at h
      · cases h
      · exact ⟨_, _, _, _, h, by rw [List.length_set]; exact Nat.le_refl _, Nat.le_of_eq (b_sl_set (q2 := (1, n, b_set (.int 0) vs i.toNatClampNeg (.int x))) hs rfl).symm⟩
    · cases h
  | aastore =>
    obtain ⟨x, t, -, h⟩ := m_pa_inv h
    obtain ⟨i, t, -, h⟩ := m_pi_inv h
    obtain ⟨a, t, -, h⟩ := m_pa_inv h
    split at h
    · next n vs fs hs hs2 =>
      split at h
      · cases h
      · exact ⟨_, _, _, _, h, by rw [List.length_set]; exact Nat.le_refl _, Nat.le_of_eq (b_sl_set (q2 := (5, n, b_set .null vs i.toNatClampNeg (.ref x))) hs rfl).symm⟩
    · cases h
  | _ => cases h
