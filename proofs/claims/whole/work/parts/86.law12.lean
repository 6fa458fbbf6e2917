/-! LAW (12): the model works a law out -/
def s78 (c _k : Nat) : Bool := c == 78
theorem fr_78 {g g2 : mG} (h : Fr s78 g g2) : Fr s1 g g2 := fr_mono h (fun c k e => by
  unfold s1 at e
  unfold s78
  simp only [Bool.or_eq_false_iff] at e
  exact e.2)
def TME (M : List TS) (F : Nat → Int32) (g : mG) : Prop := M.length ≤ 130 ∧ (∀ k x, M[k]? = some x → g.1 72 k = nI x.1 ∧ g.1 73 k = nI x.2) ∧ ∀ k, k < 6 → g.1 77 k = F k
theorem tme_fr {M : List TS} {F : Nat → Int32} {g g2 : mG} (h : TME M F g) (Fr0 : Fr s78 g g2) : TME M F g2 := by
  obtain ⟨h1, h3, h4⟩ := h
  exact ⟨h1, fun k x hk => ⟨(Fr0.1 72 k rfl).trans (h3 k x hk).1, (Fr0.1 73 k rfl).trans (h3 k x hk).2⟩, fun k hk => (Fr0.1 77 k rfl).trans (h4 k hk)⟩
theorem t130 (q : Nat) : 130 * (0 : Int32) + nI q = nI q := by
  rw [show 130 * (0 : Int32) = nI 0 from rfl, nI_add, Nat.zero_add]
theorem t61 (q : Nat) : 61 * (0 : Int32) + nI q = nI q := by
  rw [show 61 * (0 : Int32) = nI 0 from rfl, nI_add, Nat.zero_add]
theorem mw_step {M : List TS} {F : Nat → Int32} {g : mG} {n : Nat} {S : Nat → Int32} {q E : Nat} {s : TS} (hE : TME M F g) (hS : TSM 78 (n, S) g) (hq : M[q]? = some s) (hqE : q < E) (hE2 : E ≤ 130) (hs : tsk s) (hp : n ≤ q) (hd : (s.1 = 3 ∨ s.1 = 4 → 1 ≤ n) ∧ (4 < s.1 → 2 ≤ n)) (d : Nat) (x2 : Int32) (v6 : Value) {Q : Option Value → mG → Prop} (hk : ∀ g2 v6', TME M F g2 → TSM 78 (tst F s (n, S)) g2 → Fr s78 g g2 → Ok (ev none (d + 1) mm_X12_worked 12 [.ref 55, .int 0, .int x2, .int (nI E), .int (nI (tst F s (n, S)).1), .int (nI (q + 1)), v6'] [] g2) Q) : Ok (ev none (d + 1) mm_X12_worked 12 [.ref 55, .int 0, .int x2, .int (nI E), .int (nI n), .int (nI q), v6] [] g) Q := by
  have hql := l_lt hq
  have hE0 := hE
  obtain ⟨e1, e3, e4⟩ := hE
  have n130 : n < 130 := by omega
  obtain ⟨a, v⟩ := s
  have e72 : g.1 72 q = nI a := (e3 q _ hq).1
  have e73 : g.1 73 q = nI v := (e3 q _ hq).2
  rw [b_X12_worked_12, t130, m_if_pos (nI_lt hqE (by omega)), mi_nI (show q < 260 by omega) (by omega), pk_cl q (hx := rfl), e72]
  have fin : ∀ (k m : Nat) (x : Int32) (x6 : Int32), tst F (a, v) (n, S) = (m, upd S k x) → (∀ j, j < m → j ≠ k → j < n) → Ok (ev none (d + 1) mm_X12_worked 182 [.ref 55, .int 0, .int x2, .int (nI E), .int (nI m), .int (nI q), .int x6] [] (m_s1 g 78 k x)) Q := by
    intro k m x x6 ht hj
    rw [b_X12_worked_182, nI_1]
    have F1 : Fr s78 g (m_s1 g 78 k x) := fr_s1 fr_refl rfl
    have h := hk (m_s1 g 78 k x) (.int x6) (tme_fr hE0 F1)
    rw [ht] at h
    exact h (tsm_set hS hj) F1
  have push : ∀ (x : Int32) (x6 : Int32), tst F (a, v) (n, S) = (n + 1, upd S n x) → Ok (ev none (d + 1) mm_X12_worked 79 [.ref 55, .int 0, .int x2, .int (nI E), .int (nI n), .int (nI q), .int x6] [.int x, .int (nI n), .ref 78] g) Q := by
    intro x x6 ht
    rw [b_X12_worked_79, mi_nI n130 (by omega), pk_cl n (hx := rfl), nI_1]
    exact fin n (n + 1) x x6 ht (fun j hj hn => by omega)
  rcases hs with ⟨h1, h2⟩ | ⟨h1, h2⟩ | ⟨h1, h2⟩ | ⟨h1, h2⟩ | ⟨h1, h2⟩
  · have h1' : a = 1 := h1
    subst h1'
    rw [m_if_pos (by decide), b_X12_worked_45, m_if_pos (by decide), mi_nI (show q < 260 by omega) (by omega), pk_cl q (hx := rfl), e73]
    exact push _ _ rfl
  · have h1' : a = 2 := h1
    subst h1'
    have h2' : v < 6 := h2
    rw [m_if_neg (by decide), m_if_pos (by decide), b_X12_worked_45, m_if_neg (by decide), mi_nI (show q < 260 by omega) (by omega), pk_cl q (hx := rfl), e73, mi_nI (show v < 6 from h2') (by omega), pk_cl v (hx := rfl), e4 v h2']
    exact push _ _ rfl
  · have h1' : a = 3 := h1
    subst h1'
    have n1 : 1 ≤ n := hd.1 (Or.inl rfl)
    have hv : g.1 78 (n - 1) = S (n - 1) := hS (n - 1) (by show n - 1 < n; omega)
    rw [m_if_neg (by decide), m_if_neg (by decide), m_if_pos (by decide), show nI n - 1 = nI (n - 1) from pk_sub (b := 1) n1, mi_nI (show n - 1 < 130 by omega) (by omega), pk_cl (n - 1) (hx := rfl), hv]
    by_cases c : S (n - 1) = 0
    · rw [m_if_pos c, b_X12_worked_117, mi_nI (show n - 1 < 130 by omega) (by omega), pk_cl (n - 1) (hx := rfl)]
      refine fin (n - 1) n 1 _ ?_ (fun j hj _ => hj)
      show (n, upd S (n - 1) (b2 (S (n - 1) = 0))) = _
      rw [b2_t c]
    · rw [m_if_neg c, b_X12_worked_117, mi_nI (show n - 1 < 130 by omega) (by omega), pk_cl (n - 1) (hx := rfl)]
      refine fin (n - 1) n 0 _ ?_ (fun j hj _ => hj)
      show (n, upd S (n - 1) (b2 (S (n - 1) = 0))) = _
      rw [b2_f c]
  · have h1' : a = 4 := h1
    subst h1'
    have n1 : 1 ≤ n := hd.1 (Or.inr rfl)
    have hv : g.1 78 (n - 1) = S (n - 1) := hS (n - 1) (by show n - 1 < n; omega)
    rw [m_if_neg (by decide), m_if_neg (by decide), m_if_neg (by decide), m_if_pos (by decide), show nI n - 1 = nI (n - 1) from pk_sub (b := 1) n1, mi_nI (show n - 1 < 130 by omega) (by omega), mi_nI (show n - 1 < 130 by omega) (by omega), pk_cl (n - 1) (hx := rfl), hv]
    exact fin (n - 1) n _ _ rfl (fun j hj _ => hj)
  · have h1' : tbo a := h1
    have h2' : v = 0 := h2
    subst h2'
    have ha := tbo_n h1'
    have n2 : 2 ≤ n := hd.2 ha.1
    have ht : tst F (a, 0) (n, S) = (n - 1, upd S (n - 2) (tb2 a (S (n - 2)) (S (n - 1)))) := by
      unfold tst
      rw [if_neg (show ¬ a = 1 by omega), if_neg (show ¬ a = 2 by omega), if_neg (show ¬ (a = 3 ∨ a = 4) by omega)]
    have s1' : nI (n - 1) - 1 = nI (n - 2) := by
      rw [show nI (n - 1) - 1 = nI (n - 1 - 1) from pk_sub (b := 1) (by omega)]
      congr 1
    have ne : ∀ c, c < 5 → ¬ nI a = nI c := fun c hc e => by
      have := (nI_eq (a := a) (b := c) (by omega) (by omega)).mp e
      omega
    rw [m_if_neg (show ¬ nI a = 1 from ne 1 (by omega)), m_if_neg (show ¬ nI a = 2 from ne 2 (by omega)), m_if_neg (show ¬ nI a = 3 from ne 3 (by omega)), m_if_neg (show ¬ nI a = 4 from ne 4 (by omega)), sb_m1 (show 0 < n by omega), s1', mi_nI (show n - 2 < 130 by omega) (by omega), mi_nI (show n - 1 < 130 by omega) (by omega), pk_cl (n - 2) (hx := rfl), pk_cl (n - 1) (hx := rfl), v_twoOf h1', mb_some, mp_some, b_X12_worked_181, mi_nI (show n - 2 < 130 by omega) (by omega), pk_cl (n - 2) (hx := rfl), hS (n - 2) (by show n - 2 < n; omega), hS (n - 1) (by show n - 1 < n; omega)]
    exact fin (n - 2) (n - 1) _ _ ht (fun j hj hn => by omega)
theorem mw_run {M : List TS} {F : Nat → Int32} {E : Nat} (hE2 : E ≤ 130) : ∀ (e : List TS) (n m q : Nat) (S : Nat → Int32) (g : mG) (d : Nat) (x2 : Int32) (v6 : Value) (Q : Option Value → mG → Prop), TME M F g → TSM 78 (n, S) g → (∀ k x, e[k]? = some x → M[q + k]? = some x) → q + e.length ≤ E → (∀ s, s ∈ e → tsk s) → n ≤ q → tdq e n m → (∀ g2 v6', TME M F g2 → TSM 78 (trn F e (n, S)) g2 → Fr s78 g g2 → Ok (ev none (d + 1) mm_X12_worked 12 [.ref 55, .int 0, .int x2, .int (nI E), .int (nI (trn F e (n, S)).1), .int (nI (q + e.length)), v6'] [] g2) Q) → Ok (ev none (d + 1) mm_X12_worked 12 [.ref 55, .int 0, .int x2, .int (nI E), .int (nI n), .int (nI q), v6] [] g) Q := by
  intro e
  induction e with
  | nil =>
    intro n m q S g d x2 v6 Q hE hS hC hl hs hp hd hk
    exact hk g v6 hE hS fr_refl
  | cons s e ih =>
    intro n m q S g d x2 v6 Q hE hS hC hl hs hp hd hk
    rw [List.length_cons] at hl
    obtain ⟨t1, t2, t3⟩ := tdq_1 F S (hs s (List.mem_cons_self ..)) hd
    refine mw_step hE hS (hC 0 s rfl) (by omega) hE2 (hs s (List.mem_cons_self ..)) hp t1 d x2 v6 (fun g2 v6' hE3 hS2 F2 => ?_)
    refine ih (tst F s (n, S)).1 m (q + 1) (tst F s (n, S)).2 g2 d x2 v6' Q hE3 hS2 (fun k x hk2 => ?_) (by omega) (fun y hy => hs y (List.mem_cons_of_mem _ hy)) (by omega) t2 (fun g3 v6'' hE4 hS3 F3 => ?_)
    · have := hC (k + 1) x hk2
      rw [show q + 1 + k = q + (k + 1) by omega]
      exact this
    · have := hk g3 v6'' hE4 hS3 (fr_trans F2 F3)
      rw [show q + 1 + e.length = q + (s :: e).length by rw [List.length_cons]; omega]
      exact this
theorem mw_val {M : List TS} {F : Nat → Int32} {e : List TS} (he : tok e) {q : Nat} {g : mG} (hE : TME M F g) (hC : ∀ k x, e[k]? = some x → M[q + k]? = some x) (hl : q + e.length ≤ 130) (d : Nat) : Ok (ev none (d + 1) mm_X12_worked 0 [.ref 55, .int 0, .int (nI q), .int (nI (q + e.length)), .null, .null, .null] [] g) (fun r g2 => r = some (.int (tva F e)) ∧ Fr s78 g g2) := by
  rw [b_X12_worked_0, t130]
  refine mw_run hl e 0 1 q (fun _ => 0) g d _ .null _ hE (fun k hk => absurd hk (Nat.not_lt_zero k)) hC (Nat.le_refl _) he.2 (by omega) (he.1 0) (fun g2 v6' hE2 hS2 F2 => ?_)
  have hn : (trn F e (0, fun _ => 0)).1 = 1 := trn_n e (0, fun _ => 0) 1 (he.1 0)
  rw [b_X12_worked_12, t130, m_if_neg (nI_nlt (by omega) (by omega)), show m_in (0 : Int32) 130 = m_in (nI 0) 130 from rfl, mi_nI (by omega) (by omega), show Int32.toNatClampNeg 0 = 0 from rfl, hS2 0 (by rw [hn]; omega)]
  exact ok_some ⟨rfl, F2⟩
theorem tok_0 {e : List TS} (h : tok e) : 0 < e.length := by
  cases e with
  | nil =>
    have : (0 : Nat) = 1 := h.1 0
    omega
  | cons s e => rw [List.length_cons]; omega
theorem tfm_app {b : List TLn} : ∀ a : List TLn, tfm (a ++ b) = tfm a ++ tfm b := by
  intro a
  induction a with
  | nil => rfl
  | cons x a ih =>
    show tls x ++ tfm (a ++ b) = (tls x ++ tfm a) ++ tfm b
    rw [ih, List.append_assoc]
theorem mw_lines {ls : List TLn} {F : Nat → Int32} (hok : ∀ x, x ∈ ls → tlok x) (h61 : ls.length ≤ 61) : ∀ m k (g : mG) (d : Nat), k + m = ls.length → TME (tfm ls) F g → g.1 74 0 = nI ls.length → TLS 0 ls g → Ok (ev none (d + 2) mm_X12_gives 7 [.ref 55, .int 0, .int (nI (tfm (ls.take k)).length), .int (nI k)] [] g) (fun r g2 => r = some (.int (tvl F (ls.drop k))) ∧ Fr s78 g g2) := by
  intro m
  induction m with
  | zero =>
    intro k g d hk hE h74 hT
    have e0 : k = ls.length := hk
    subst e0
    rw [b_X12_gives_7, show m_in (0 : Int32) 2 = m_in (nI 0) 2 from rfl, mi_nI (by omega) (by omega), show Int32.toNatClampNeg 0 = 0 from rfl, h74, t61, m_if_neg (nI_nlt (by omega) (by omega)), List.drop_length]
    exact ok_some ⟨rfl, fr_refl⟩
  | succ m ih =>
    intro k g d hk hE h74 hT
    have hkl : k < ls.length := by omega
    have hg : ls[k]? = some ls[k] := List.getElem?_eq_getElem hkl
    obtain ⟨t75, t76⟩ := hT k _ hg
    rw [Nat.zero_add] at t75 t76
    have hx : tlok ls[k] := hok _ (List.getElem_mem hkl)
    have hdr : ls.drop k = ls[k] :: ls.drop (k + 1) := List.drop_eq_getElem_cons hkl
    have htk : tfm (ls.take (k + 1)) = tfm (ls.take k) ++ tls ls[k] := by
      rw [List.take_succ_eq_append_getElem hkl, tfm_ap]
    have hall : tfm ls = tfm (ls.take k) ++ (tls ls[k] ++ tfm (ls.drop (k + 1))) := by
      conv => lhs; rw [← List.take_append_drop k ls, hdr, tfm_app]
      rfl
    generalize hx0 : ls[k] = x at *
    generalize hA : (tfm (ls.take k)) = A at *
    have hlen : A.length + ((tls x).length + (tfm (ls.drop (k + 1))).length) ≤ 130 := by
      have := hE.1
      rw [hall, List.length_append, List.length_append] at this
      exact this
    have in1 : ∀ j y, (tls x)[j]? = some y → (tfm ls)[A.length + j]? = some y := fun j y hj => by
      rw [hall]
      exact ap_r (ap_l hj)
    have inE : ∀ j y, x.2[j]? = some y → (tfm ls)[A.length + (tlt x).length + j]? = some y := fun j y hj => by
      rw [Nat.add_assoc]
      exact in1 _ y (ap_r (A := tlt x) hj)
    have hls : (tls x).length = (tlt x).length + x.2.length := List.length_append
    have go47 : ∀ (g2 : mG) (x2 : Int32) (v : Int32), tlv F x = some v → v = tva F x.2 → TME (tfm ls) F g2 → TLS 0 ls g2 → Fr s78 g g2 → Ok (ev none (d + 2) mm_X12_gives 47 [.ref 55, .int 0, .int x2, .int (nI k)] [] g2) (fun r g3 => r = some (.int (tvl F (ls.drop k))) ∧ Fr s78 g g3) := by
      intro g2 x2 v hv hv2 hE2 hT2 F2
      obtain ⟨u75, u76⟩ := hT2 k x hg
      rw [Nat.zero_add, hA] at u75 u76
      rw [b_X12_gives_47, mi_nI (show k < 122 by omega) (by omega), mi_nI (show k < 122 by omega) (by omega), pk_cl k (hx := rfl), u75, u76, hls, ← Nat.add_assoc]
      refine ok_bnd (mw_val hx.2 hE2 inE (by omega) d) ?_
      intro r g3 ⟨hr, F3⟩
      subst hr
      rw [mp_some, b_X12_gives_64, hdr]
      refine ok_some ⟨?_, fr_trans F2 F3⟩
      show _ = some (Value.int ((tlv F x).getD (tvl F (ls.drop (k + 1)))))
      rw [hv, hv2]
      rfl
    rw [b_X12_gives_7, show m_in (0 : Int32) 2 = m_in (nI 0) 2 from rfl, mi_nI (by omega) (by omega), show Int32.toNatClampNeg 0 = 0 from rfl, h74, t61, m_if_pos (nI_lt hkl (by omega)), mi_nI (show k < 122 by omega) (by omega), mi_nI (show k < 122 by omega) (by omega), pk_cl k (hx := rfl), t75, mi_c (nI_eq (by omega) (by omega))]
    match x, hx, hx0, in1, inE, hls, go47, hdr, htk, hall, hg, t75, t76, hlen with
    | (none, e), hx, hx0, in1, inE, hls, go47, hdr, htk, hall, hg, t75, t76, hlen =>
      have l0 : (tlt (none, e)).length = 0 := rfl
      rw [m_if_pos (by omega)]
      exact go47 g _ _ rfl rfl hE hT fr_refl
    | (some t, e), hx, hx0, in1, inE, hls, go47, hdr, htk, hall, hg, t75, t76, hlen =>
      have ht : tok t := hx.1 t rfl
      have l0 : (tlt (some t, e)).length = t.length := rfl
      have tp := tok_0 ht
      rw [m_if_neg (by omega), l0]
      refine ok_bnd (mw_val ht hE (fun j y hj => in1 j y (ap_l hj)) (by omega) d) ?_
      intro r g2 ⟨hr, F2⟩
      subst hr
      rw [mp_some, b_X12_gives_44]
      have hE2 := tme_fr hE F2
      have hT2 : TLS 0 ls g2 := fun j y hj => by
        rw [F2.1 75 _ rfl, F2.1 76 _ rfl]
        exact hT j y hj
      have h742 : g2.1 74 0 = nI ls.length := (F2.1 74 0 rfl).trans h74
      by_cases c : tva F t = 0
      · have hnone : tlv F (some t, e) = none := if_pos c
        rw [m_if_pos c, mi_nI (show k < 122 by omega) (by omega), pk_cl k (hx := rfl), nI_1, F2.1 76 k rfl, t76]
        have := ih (k + 1) g2 d (by omega) hE2 h742 hT2
        rw [htk, List.length_append] at this
        refine ok_mono this ?_
        intro r g3 ⟨hr, F3⟩
        refine ⟨?_, fr_trans F2 F3⟩
        rw [hr, hdr]
        show _ = some (Value.int ((tlv F (some t, e)).getD (tvl F (ls.drop (k + 1)))))
        rw [hnone]
        rfl
      · have hsome : tlv F (some t, e) = some (tva F e) := if_neg c
        rw [m_if_neg c]
        exact go47 g2 _ _ hsome rfl hE2 hT2 F2
theorem m_law {ls : List TLn} (hok : ∀ x, x ∈ ls → tlok x) (h61 : ls.length ≤ 61) (hl : (tfm ls).length ≤ 130) {g : mG} (h74 : g.1 74 0 = nI ls.length) (h3 : ∀ k x, (tfm ls)[k]? = some x → g.1 72 k = nI x.1 ∧ g.1 73 k = nI x.2) (hT : TLS 0 ls g) : ML (tW ls) g := by
  intro d g' e1 e2 e3
  rw [b_X12_gives_0, show 61 * (0 : Int32) = nI 0 from rfl]
  refine ok_mono (mw_lines (F := tF6 (g'.1 77 0) (g'.1 77 1) (g'.1 77 2) (g'.1 77 3) (g'.1 77 4) (g'.1 77 5)) hok h61 ls.length 0 g' d (Nat.zero_add _) ⟨hl, fun k x hk => ?_, tF6_ok (g'.1 77)⟩ (e2.trans h74) ?_) ?_
  · have := l_lt hk
    rw [(e1 k (by omega)).1, (e1 k (by omega)).2]
    exact h3 k x hk
  · intro k x hk
    have := l_lt hk
    rw [(e3 (0 + k) (by omega)).1, (e3 (0 + k) (by omega)).2]
    exact hT k x hk
  · intro r g2 ⟨hr, F2⟩
    exact ⟨hr, fr_78 F2⟩
