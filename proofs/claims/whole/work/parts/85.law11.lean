/-! LAW (11): the class works a law out -/
theorem ap_l {α : Type} {A B : List α} {k : Nat} {y : α} (h : A[k]? = some y) : (A ++ B)[k]? = some y := by
  rw [List.getElem?_append_left (l_lt h)]
  exact h
theorem ap_r {α : Type} {A B : List α} {k : Nat} {y : α} (h : B[k]? = some y) : (A ++ B)[A.length + k]? = some y := by
  rw [List.getElem?_append_right (by omega), Nat.add_sub_cancel_left]
  exact h
noncomputable def tlv (F : Nat → Int32) : TLn → Option Int32
  | (none, e) => some (tva F e)
  | (some t, e) => if tva F t = 0 then none else some (tva F e)
/-- a law's worth -/
noncomputable def tvl (F : Nat → Int32) : List TLn → Int32
  | [] => 0
  | x :: ls => (tlv F x).getD (tvl F ls)
theorem tcc_59 {s : TS} (h : tsk s) : ¬ tcc s = -59 := by
  obtain ⟨a, v⟩ := s
  rcases h with ⟨h1, h2⟩ | ⟨h1, h2⟩ | ⟨h1, h2⟩ | ⟨h1, h2⟩ | ⟨h1, h2⟩
  · have h1' : a = 1 := h1
    have h2' : v < 10000 := h2
    subst h1'
    exact (tcv (v := v) (by omega)).1
  · have h1' : a = 2 := h1
    subst h1'
    exact (tcn v h2).1
  · have h1' : a = 3 := h1
    subst h1'
    rw [show tcc (3, v) = -33 from rfl]
    decide
  · have h1' : a = 4 := h1
    subst h1'
    rw [show tcc (4, v) = -126 from rfl]
    decide
  · have h1' : tbo a := h1
    have h2' : v = 0 := h2
    subst h2'
    rw [tcc_bo h1']
    exact (tcb h1').1
theorem x_eol {C : List TS} {F : Nat → Int32} {g : mG} (hE : TXE C F g) (d : Nat) (x1 : Int32) : ∀ m q, (∀ k, k < m → ∃ s, C[q + k]? = some s ∧ ¬ tcc s = -59) → C[q + m]? = some (59, 0) → ev none d mm_X3_endOfLine 2 [.ref 12, .int x1, .int (nI q)] [] g = some (some (.int (nI (q + m))), g) := by
  obtain ⟨e1, e2, e3, e4⟩ := hE
  intro m
  induction m with
  | zero =>
    intro q h1 h2
    have hq := l_lt h2
    rw [b_X3_endOfLine_2, e2, m_if_pos (nI_lt (show q < C.length by omega) (by omega)), mi_nI (show q < 128 by omega) (by omega), pk_cl q (hx := rfl), e3 q (59, 0) h2, m_if_pos (by decide)]
    rfl
  | succ m ih =>
    intro q h1 h2
    have hq := l_lt h2
    obtain ⟨s, s1, s2⟩ := h1 0 (by omega)
    rw [b_X3_endOfLine_2, e2, m_if_pos (nI_lt (show q < C.length by omega) (by omega)), mi_nI (show q < 128 by omega) (by omega), pk_cl q (hx := rfl), e3 q s s1, m_if_neg s2, nI_1, ih (q + 1) (fun k hk => by
      rw [show q + 1 + k = q + (k + 1) by omega]
      exact h1 (k + 1) (by omega)) (by
      rw [show q + 1 + m = q + (m + 1) by omega]
      exact h2), show q + 1 + m = q + (m + 1) by omega]
theorem xw_val {C : List TS} {F : Nat → Int32} {e : List TS} (he : tok e) {q : Nat} {g : mG} (hE : TXE C F g) (hC : ∀ k x, e[k]? = some x → C[q + k]? = some x) (h59 : C[q + e.length]? = some (59, 0)) (d : Nat) (v4 : Value) {Q : Option Value → mG → Prop} (hv : ∀ g2, Fr s14 g g2 → Q (some (.int (tva F e))) g2) : Ok (ev none (d + 1) mm_X3_worth 4 [.ref 12, .ref 11, .int (nI 0), .int (nI q), v4] [] g) Q := by
  refine xw_run e 0 1 q (fun _ => 0) g d v4 Q hE (fun k hk => absurd hk (Nat.not_lt_zero k)) hC he.2 (by omega) (he.1 0) (fun g2 v4' hE2 hS2 F2 => ?_)
  have hn : (trn F e (0, fun _ => 0)).1 = 1 := trn_n e (0, fun _ => 0) 1 (he.1 0)
  obtain ⟨e1, e2, e3, e4⟩ := hE2
  have hq := l_lt h59
  rw [b_X3_worth_4, e2, m_if_pos (nI_lt hq (by omega)), mi_nI (show q + e.length < 128 by omega) (by omega), pk_cl (q + e.length) (hx := rfl), e3 _ _ h59, m_if_pos (by decide), show m_in (0 : Int32) 128 = m_in (nI 0) 128 from rfl, mi_nI (by omega) (by omega), show Int32.toNatClampNeg 0 = 0 from rfl, hS2 0 (by rw [hn]; omega)]
  exact ok_some (hv g2 F2)
theorem xw_line {C : List TS} {F : Nat → Int32} {x : TLn} (hx : tlok x) {q : Nat} {g : mG} (hE : TXE C F g) (hC : ∀ k y, (tlx x)[k]? = some y → C[q + k]? = some y) (d : Nat) (v4 : Value) {Q : Option Value → mG → Prop} (hv : ∀ v, tlv F x = some v → ∀ g2, Fr s14 g g2 → Q (some (.int v)) g2) (hn : tlv F x = none → ∀ g2 v4', TXE C F g2 → Fr s14 g g2 → Ok (ev none (d + 2) mm_X3_worth 4 [.ref 12, .ref 11, .int (nI 0), .int (nI (q + (tlx x).length)), v4'] [] g2) Q) : Ok (ev none (d + 2) mm_X3_worth 4 [.ref 12, .ref 11, .int (nI 0), .int (nI q), v4] [] g) Q := by
  match x, hx, hC, hv, hn with
  | (none, e), hx, hC, hv, hn =>
    refine xw_val hx.2 hE (fun k y hk => hC k y (ap_l (B := [(59, 0)]) hk)) ?_ (d + 1) v4 (hv _ rfl)
    have := hC (e.length + 0) (59, 0) (ap_r (A := e) (B := [(59, 0)]) rfl)
    exact this
  | (some t, e), hx, hC, hv, hn =>
    have ht : tok t := hx.1 t rfl
    have i1 : ∀ k y, t[k]? = some y → C[q + k]? = some y := fun k y hk => hC k y (ap_l (ap_l hk))
    have i2 : C[q + t.length]? = some (63, 0) := hC (t.length + 0) (63, 0) (ap_l (ap_r (A := t) (B := [(63, 0)]) rfl))
    have i3 : ∀ k y, (e ++ [(59, 0)])[k]? = some y → C[q + t.length + 1 + k]? = some y := fun k y hk => by
      have := hC ((t ++ [(63, 0)]).length + k) y (ap_r hk)
      rw [t_len] at this
      rw [show q + t.length + 1 + k = q + (t.length + 1 + k) by omega]
      exact this
    have i4 : C[q + t.length + 1 + e.length]? = some (59, 0) := i3 (e.length + 0) (59, 0) (ap_r (A := e) (B := [(59, 0)]) rfl)
    have hlen : (tlx (some t, e)).length = t.length + 1 + (e.length + 1) := by
      show ((t ++ [(63, 0)]) ++ (e ++ [(59, 0)])).length = _
      rw [List.length_append, t_len, t_len]
    refine xw_run t 0 1 q (fun _ => 0) g (d + 1) v4 Q hE (fun k hk => absurd hk (Nat.not_lt_zero k)) i1 ht.2 (by omega) (ht.1 0) (fun g2 v4' hE2 hS2 F2 => ?_)
    have hn1 : (trn F t (0, fun _ => 0)).1 = 1 := trn_n t (0, fun _ => 0) 1 (ht.1 0)
    have hE2' := hE2
    obtain ⟨e1, e2, e3, e4⟩ := hE2
    have hq := l_lt i2
    have hq4 := l_lt i4
    rw [b_X3_worth_4, e2, m_if_pos (nI_lt hq (by omega)), mi_nI (show q + t.length < 128 by omega) (by omega), pk_cl (q + t.length) (hx := rfl), e3 _ _ i2, m_if_neg (by decide), m_if_pos (by decide), show m_in (0 : Int32) 128 = m_in (nI 0) 128 from rfl, mi_nI (by omega) (by omega), show Int32.toNatClampNeg 0 = 0 from rfl, hS2 0 (by rw [hn1]; omega), show (trn F t (0, fun _ => 0)).2 0 = tva F t from rfl]
    by_cases c : tva F t = 0
    · have hnone : tlv F (some t, e) = none := if_pos c
      have sc := x_eol hE2' (d + 1) (nI (q + t.length)) (1 + e.length) (q + t.length) (fun k hk => by
        rcases Nat.eq_zero_or_pos k with h0 | h0
        · subst h0
          exact ⟨(63, 0), i2, by decide⟩
        · have hk2 : k - 1 < e.length := by omega
          have hg : e[k - 1]? = some e[k - 1] := List.getElem?_eq_getElem hk2
          refine ⟨e[k - 1], ?_, tcc_59 (hx.2.2 _ (List.getElem_mem hk2))⟩
          have := i3 (k - 1) _ (ap_l hg)
          rw [show q + t.length + 1 + (k - 1) = q + t.length + k by omega] at this
          exact this) (by
        rw [show q + t.length + (1 + e.length) = q + t.length + 1 + e.length by omega]
        exact i4)
      rw [m_if_pos c, b_X3_endOfLine_0, sc, mb_some, mp_some, b_X3_worth_55, b_X3_worth_59, b_X3_worth_186, nI_1]
      have := hn hnone g2 (.int (tcc (63, 0))) hE2' F2
      rw [hlen, show q + (t.length + 1 + (e.length + 1)) = q + t.length + (1 + e.length) + 1 by omega] at this
      exact this
    · have hsome : tlv F (some t, e) = some (tva F e) := if_neg c
      rw [m_if_neg c, b_X3_worth_59, b_X3_worth_186, nI_1]
      exact xw_val hx.2 hE2' (fun k y hk => i3 k y (ap_l hk)) i4 (d + 1) _ (fun g3 F3 => hv _ hsome g3 (fr_trans F2 F3))
theorem xw_lines {C : List TS} {F : Nat → Int32} : ∀ (ls : List TLn) (q : Nat) (g : mG) (d : Nat) (v4 : Value), (∀ x, x ∈ ls → tlok x) → TXE C F g → (∀ k y, (tfx ls)[k]? = some y → C[q + k]? = some y) → q + (tfx ls).length = C.length → Ok (ev none (d + 2) mm_X3_worth 4 [.ref 12, .ref 11, .int (nI 0), .int (nI q), v4] [] g) (fun r g2 => r = some (.int (tvl F ls)) ∧ Fr s14 g g2) := by
  intro ls
  induction ls with
  | nil =>
    intro q g d v4 hok hE hC hl
    have e0 : q = C.length := hl
    have h128 := hE.1
    rw [b_X3_worth_4, hE.2.1, m_if_neg (nI_nlt (by omega) (by omega))]
    exact ok_some ⟨rfl, fr_refl⟩
  | cons x ls ih =>
    intro q g d v4 hok hE hC hl
    have hl2 : q + ((tlx x).length + (tfx ls).length) = C.length := by
      rw [← List.length_append]; exact hl
    refine xw_line (hok x (List.mem_cons_self ..)) hE (fun k y hk => hC k y (ap_l hk)) d v4 ?_ ?_
    · intro v hv g2 F2
      refine ⟨?_, F2⟩
      show some (Value.int v) = some (Value.int ((tlv F x).getD (tvl F ls)))
      rw [hv]
      rfl
    · intro hv g2 v4' hE2 F2
      refine ok_mono (ih (q + (tlx x).length) g2 d v4' (fun y hy => hok y (List.mem_cons_of_mem _ hy)) hE2 (fun k y hk => ?_) (by omega)) ?_
      · have := hC ((tlx x).length + k) y (ap_r hk)
        rw [Nat.add_assoc]
        exact this
      · intro r g3 ⟨hr, F3⟩
        refine ⟨?_, fr_trans F2 F3⟩
        rw [hr]
        show some (Value.int (tvl F ls)) = some (Value.int ((tlv F x).getD (tvl F ls)))
        rw [hv]
        rfl
def tF6 (a b c d e f : Int32) (k : Nat) : Int32 := if k = 0 then a else if k = 1 then b else if k = 2 then c else if k = 3 then d else if k = 4 then e else f
theorem tF6_ok (f : Nat → Int32) : ∀ k, k < 6 → f k = tF6 (f 0) (f 1) (f 2) (f 3) (f 4) (f 5) k := by
  intro k hk
  have h6 : k = 0 ∨ k = 1 ∨ k = 2 ∨ k = 3 ∨ k = 4 ∨ k = 5 := by omega
  rcases h6 with rfl | rfl | rfl | rfl | rfl | rfl <;> rfl
/-- the law that lines tell -/
noncomputable def tW (ls : List TLn) : mW := fun a b c d e f => tvl (tF6 a b c d e f) ls
theorem x_law {ls : List TLn} (hok : ∀ x, x ∈ ls → tlok x) (hl : (tfx ls).length ≤ 128) {g : mG} (h2 : g.1 12 2 = nI (tfx ls).length) (h3 : ∀ k x, (tfx ls)[k]? = some x → g.1 13 k = tcc x) : XL (tW ls) g := by
  intro d g' e1 e2
  rw [b_X3_worth_0]
  refine ok_mono (xw_lines (C := tfx ls) (F := tF6 (g'.1 11 0) (g'.1 11 1) (g'.1 11 2) (g'.1 11 3) (g'.1 11 4) (g'.1 11 5)) ls 0 g' d .null hok ⟨hl, e1.trans h2, fun k x hk => (e2 k).trans (h3 k x hk), tF6_ok (g'.1 11)⟩ (fun k y hk => by rw [Nat.zero_add]; exact hk) (Nat.zero_add _)) ?_
  intro r g2 ⟨hr, F2⟩
  exact ⟨hr, fr_14 F2⟩
