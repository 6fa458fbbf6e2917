/-! LAW (10): the class works formulas out -/
theorem l_lt {α : Type} {C : List α} {q : Nat} {s : α} (h : C[q]? = some s) : q < C.length := (List.getElem?_eq_some_iff.mp h).1
def TSM (c : Nat) (p : Nat × (Nat → Int32)) (g : mG) : Prop := ∀ k, k < p.1 → g.1 c k = p.2 k
theorem tsm_set {c n m k : Nat} {S : Nat → Int32} {g : mG} {v : Int32} (h : TSM c (n, S) g) (hm : ∀ j, j < m → j ≠ k → j < n) : TSM c (m, upd S k v) (m_s1 g c k v) := by
  intro j hj
  by_cases e : j = k
  · subst e
    rw [s1_at]
    exact upd_at.symm
  · rw [s1_same e]
    exact (h j (hm j hj e)).trans (upd_ne e).symm
def s14 (c _k : Nat) : Bool := c == 14
theorem fr_14 {g g2 : mG} (h : Fr s14 g g2) : Fr s1 g g2 := fr_mono h (fun c k e => by
  unfold s1 at e
  unfold s14
  simp only [Bool.or_eq_false_iff] at e
  exact e.1.1.2)
def TXE (C : List TS) (F : Nat → Int32) (g : mG) : Prop := C.length ≤ 128 ∧ g.1 12 2 = nI C.length ∧ (∀ k x, C[k]? = some x → g.1 13 k = tcc x) ∧ ∀ k, k < 6 → g.1 11 k = F k
theorem txe_fr {C : List TS} {F : Nat → Int32} {g g2 : mG} (h : TXE C F g) (Fr0 : Fr s14 g g2) : TXE C F g2 := by
  obtain ⟨h1, h2, h3, h4⟩ := h
  exact ⟨h1, (Fr0.1 12 2 rfl).trans h2, fun k x hk => (Fr0.1 13 k rfl).trans (h3 k x hk), fun k hk => (Fr0.1 11 k rfl).trans (h4 k hk)⟩
theorem tcv {v : Nat} (h : v < 2 ^ 31) : ¬ nI v = -59 ∧ ¬ nI v = -63 ∧ ¬ nI v < -6 ∧ ¬ nI v < 0 := by
  have h0 := nI_pos h
  refine ⟨fun e => h0 (by rw [e]; decide), fun e => h0 (by rw [e]; decide), fun e => h0 (Int32.lt_trans e (by decide)), h0⟩
theorem tcn : ∀ k, k < 6 → ¬ (-1 - nI k = -59) ∧ ¬ (-1 - nI k = -63) ∧ ¬ (-1 - nI k < -6) ∧ (-1 - nI k < 0) ∧ (-1 - (-1 - nI k) = nI k) := by decide
theorem tcb {c : Nat} (h : tbo c) : ¬ (-nI c = -59) ∧ ¬ (-nI c = -63) ∧ (-nI c < -6) ∧ ¬ (-nI c = -33) ∧ ¬ (-nI c = -126) := by
  rcases h with rfl | rfl | rfl | rfl | rfl | rfl | rfl | rfl | rfl | rfl <;> decide
theorem xw_step {C : List TS} {F : Nat → Int32} {g : mG} {n : Nat} {S : Nat → Int32} {q : Nat} {s : TS} (hE : TXE C F g) (hS : TSM 14 (n, S) g) (hq : C[q]? = some s) (hs : tsk s) (hp : n ≤ q) (hd : (s.1 = 3 ∨ s.1 = 4 → 1 ≤ n) ∧ (4 < s.1 → 2 ≤ n)) (d : Nat) (v4 : Value) {Q : Option Value → mG → Prop} (hk : ∀ g2 v4', TXE C F g2 → TSM 14 (tst F s (n, S)) g2 → Fr s14 g g2 → Ok (ev none (d + 1) mm_X3_worth 4 [.ref 12, .ref 11, .int (nI (tst F s (n, S)).1), .int (nI (q + 1)), v4'] [] g2) Q) : Ok (ev none (d + 1) mm_X3_worth 4 [.ref 12, .ref 11, .int (nI n), .int (nI q), v4] [] g) Q := by
  have hql := l_lt hq
  have hE0 := hE
  obtain ⟨e1, e2, e3, e4⟩ := hE
  have n128 : n < 128 := by omega
  rw [b_X3_worth_4, e2, m_if_pos (nI_lt hql (by omega)), mi_nI (show q < 128 by omega) (by omega), pk_cl q (hx := rfl), e3 q s hq]
  obtain ⟨a, v⟩ := s
  have push : ∀ (x : Int32) (x4 : Int32), tst F (a, v) (n, S) = (n + 1, upd S n x) → Ok (ev none (d + 1) mm_X3_worth 100 [.ref 12, .ref 11, .int (nI n), .int (nI q), .int x4] [.int x, .int (nI n), .ref 14] g) Q := by
    intro x x4 ht
    rw [b_X3_worth_100, mi_nI n128 (by omega), pk_cl n (hx := rfl), b_X3_worth_186, nI_1, nI_1]
    have F1 : Fr s14 g (m_s1 g 14 n x) := fr_s1 fr_refl rfl
    have h := hk (m_s1 g 14 n x) (.int x4) (txe_fr hE0 F1)
    rw [ht] at h
    exact h (tsm_set hS (fun j hj hn => by omega)) F1
  have one : ∀ (x : Int32) (x4 : Int32), tst F (a, v) (n, S) = (n, upd S (n - 1) x) → 1 ≤ n → (ev none d mm_X3_joined 0 [.int x4, .int 0, .int (g.1 14 (n - 1))] [] g = some (some (.int x), g)) → Ok (ev none (d + 1) mm_X3_worth 121 [.ref 12, .ref 11, .int (nI n), .int (nI q), .int x4] [] g) Q := by
    intro x x4 ht h1 hj
    rw [b_X3_worth_121, m_if_neg (show ¬ nI n < 1 from nI_nlt (b := 1) h1 (by omega)), show nI n - 1 = nI (n - 1) from pk_sub (b := 1) h1, mi_nI (show n - 1 < 128 by omega) (by omega), pk_cl (n - 1) (hx := rfl), hj, mb_some, mp_some, b_X3_worth_147, mi_nI (show n - 1 < 128 by omega) (by omega), pk_cl (n - 1) (hx := rfl), b_X3_worth_186, nI_1]
    have F1 : Fr s14 g (m_s1 g 14 (n - 1) x) := fr_s1 fr_refl rfl
    have h := hk (m_s1 g 14 (n - 1) x) (.int x4) (txe_fr hE0 F1)
    rw [ht] at h
    exact h (tsm_set hS (fun j hj _ => hj)) F1
  rcases hs with ⟨h1, h2⟩ | ⟨h1, h2⟩ | ⟨h1, h2⟩ | ⟨h1, h2⟩ | ⟨h1, h2⟩
  · have h1' : a = 1 := h1
    subst h1'
    have h2' : v < 10000 := h2
    obtain ⟨c1, c2, c3, c4⟩ := tcv (v := v) (by omega)
    rw [show tcc (1, v) = nI v from rfl, m_if_neg c1, m_if_neg c2, m_if_neg c3, m_if_pos (show nI n < 128 from nI_lt (b := 128) n128 (by omega)), m_if_neg c4]
    exact push _ _ rfl
  · have h1' : a = 2 := h1
    subst h1'
    have h2' : v < 6 := h2
    obtain ⟨c1, c2, c3, c4, c5⟩ := tcn v h2'
    rw [show tcc (2, v) = -1 - nI v from rfl, m_if_neg c1, m_if_neg c2, m_if_neg c3, m_if_pos (show nI n < 128 from nI_lt (b := 128) n128 (by omega)), m_if_pos c4, c5, mi_nI h2' (by omega), pk_cl v (hx := rfl), e4 v h2']
    exact push _ _ rfl
  · have h1' : a = 3 := h1
    subst h1'
    have n1 : 1 ≤ n := hd.1 (Or.inl rfl)
    rw [show tcc (3, v) = -33 from rfl, m_if_neg (by decide), m_if_neg (by decide), m_if_pos (by decide), m_if_pos rfl]
    exact one (tu1 3 (S (n - 1))) (-33) rfl n1 (by rw [v_joined3, hS (n - 1) (by show n - 1 < n; omega)])
  · have h1' : a = 4 := h1
    subst h1'
    have n1 : 1 ≤ n := hd.1 (Or.inr rfl)
    rw [show tcc (4, v) = -126 from rfl, m_if_neg (by decide), m_if_neg (by decide), m_if_pos (by decide), m_if_neg (by decide), m_if_pos rfl]
    exact one (tu1 4 (S (n - 1))) (-126) rfl n1 (by rw [v_joined4, hS (n - 1) (by show n - 1 < n; omega)])
  · have h1' : tbo a := h1
    have h2' : v = 0 := h2
    subst h2'
    have ha := tbo_n h1'
    have n2 : 2 ≤ n := hd.2 ha.1
    obtain ⟨c1, c2, c3, c4, c5⟩ := tcb h1'
    have ht : tst F (a, 0) (n, S) = (n - 1, upd S (n - 2) (tb2 a (S (n - 2)) (S (n - 1)))) := by
      unfold tst
      rw [if_neg (show ¬ a = 1 by omega), if_neg (show ¬ a = 2 by omega), if_neg (show ¬ (a = 3 ∨ a = 4) by omega)]
    have s1' : nI (n - 1) - 1 = nI (n - 2) := by
      rw [show nI (n - 1) - 1 = nI (n - 1 - 1) from pk_sub (b := 1) (by omega)]
      congr 1
    rw [tcc_bo h1', m_if_neg c1, m_if_neg c2, m_if_pos c3, m_if_neg c4, m_if_neg c5, m_if_neg (show ¬ nI n < 2 from nI_nlt (b := 2) n2 (by omega)), sb_m1 (show 0 < n by omega), s1', mi_nI (show n - 2 < 128 by omega) (by omega), mi_nI (show n - 1 < 128 by omega) (by omega), pk_cl (n - 2) (hx := rfl), pk_cl (n - 1) (hx := rfl), v_joined h1', mb_some, mp_some, b_X3_worth_185, mi_nI (show n - 2 < 128 by omega) (by omega), pk_cl (n - 2) (hx := rfl), b_X3_worth_186, nI_1, hS (n - 2) (by show n - 2 < n; omega), hS (n - 1) (by show n - 1 < n; omega)]
    have F1 : Fr s14 g (m_s1 g 14 (n - 2) (tb2 a (S (n - 2)) (S (n - 1)))) := fr_s1 fr_refl rfl
    have h := hk _ (.int (-nI a)) (txe_fr hE0 F1)
    rw [ht] at h
    exact h (tsm_set hS (fun j hj hn => by omega)) F1
theorem tdq_1 {s : TS} {l : List TS} {n m : Nat} (F : Nat → Int32) (S : Nat → Int32) (hs : tsk s) (h : tdq (s :: l) n m) : ((s.1 = 3 ∨ s.1 = 4 → 1 ≤ n) ∧ (4 < s.1 → 2 ≤ n)) ∧ tdq l (tst F s (n, S)).1 m ∧ (tst F s (n, S)).1 ≤ n + 1 := by
  have h3 : if s.1 = 1 ∨ s.1 = 2 then tdq l (n + 1) m else if s.1 = 3 ∨ s.1 = 4 then 1 ≤ n ∧ tdq l n m else 2 ≤ n ∧ tdq l (n - 1) m := h
  unfold tst
  by_cases c1 : s.1 = 1
  · rw [if_pos (Or.inl c1)] at h3
    rw [if_pos c1]
    exact ⟨⟨fun z => by omega, fun z => by omega⟩, h3, by show n + 1 ≤ n + 1; omega⟩
  · by_cases c2 : s.1 = 2
    · rw [if_pos (Or.inr c2)] at h3
      rw [if_neg c1, if_pos c2]
      exact ⟨⟨fun z => by omega, fun z => by omega⟩, h3, by show n + 1 ≤ n + 1; omega⟩
    · rw [if_neg (fun z => z.elim c1 c2)] at h3
      rw [if_neg c1, if_neg c2]
      by_cases c3 : s.1 = 3 ∨ s.1 = 4
      · rw [if_pos c3] at h3 ⊢
        exact ⟨⟨fun _ => h3.1, fun z => by omega⟩, h3.2, by show n ≤ n + 1; omega⟩
      · rw [if_neg c3] at h3 ⊢
        exact ⟨⟨fun z => absurd z c3, fun _ => h3.1⟩, h3.2, by show n - 1 ≤ n + 1; omega⟩
theorem xw_run {C : List TS} {F : Nat → Int32} : ∀ (e : List TS) (n m q : Nat) (S : Nat → Int32) (g : mG) (d : Nat) (v4 : Value) (Q : Option Value → mG → Prop), TXE C F g → TSM 14 (n, S) g → (∀ k x, e[k]? = some x → C[q + k]? = some x) → (∀ s, s ∈ e → tsk s) → n ≤ q → tdq e n m → (∀ g2 v4', TXE C F g2 → TSM 14 (trn F e (n, S)) g2 → Fr s14 g g2 → Ok (ev none (d + 1) mm_X3_worth 4 [.ref 12, .ref 11, .int (nI (trn F e (n, S)).1), .int (nI (q + e.length)), v4'] [] g2) Q) → Ok (ev none (d + 1) mm_X3_worth 4 [.ref 12, .ref 11, .int (nI n), .int (nI q), v4] [] g) Q := by
  intro e
  induction e with
  | nil =>
    intro n m q S g d v4 Q hE hS hC hs hp hd hk
    exact hk g v4 hE hS fr_refl
  | cons s e ih =>
    intro n m q S g d v4 Q hE hS hC hs hp hd hk
    obtain ⟨t1, t2, t3⟩ := tdq_1 F S (hs s (List.mem_cons_self ..)) hd
    refine xw_step hE hS (hC 0 s rfl) (hs s (List.mem_cons_self ..)) hp t1 d v4 (fun g2 v4' hE2 hS2 F2 => ?_)
    refine ih (tst F s (n, S)).1 m (q + 1) (tst F s (n, S)).2 g2 d v4' Q hE2 hS2 (fun k x hk2 => ?_) (fun y hy => hs y (List.mem_cons_of_mem _ hy)) (by omega) t2 (fun g3 v4'' hE3 hS3 F3 => ?_)
    · have := hC (k + 1) x hk2
      rw [show q + 1 + k = q + (k + 1) by omega]
      exact this
    · have := hk g3 v4'' hE3 hS3 (fr_trans F2 F3)
      rw [show q + 1 + e.length = q + (s :: e).length by rw [List.length_cons]; omega]
      exact this
