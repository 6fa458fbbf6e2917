/-! WHO IS LET GO: the model tries sets, the class foresees -/
theorem cnt_add {p : Nat} {A B : Nat → Prop} (h : ∀ i, i < p → ¬ (A i ∧ B i)) : cnt p (fun i => A i ∨ B i) = cnt p A + cnt p B := by
  induction p with
  | zero => rfl
  | succ p ih =>
    have ih' := ih (fun i hi => h i (by omega))
    by_cases a : A p
    · have b : ¬ B p := fun b => h p (by omega) ⟨a, b⟩
      rw [cnt_t (c := fun i => A i ∨ B i) (Or.inl a), cnt_t a, cnt_f b, ih']
      omega
    · by_cases b : B p
      · rw [cnt_t (c := fun i => A i ∨ B i) (Or.inr b), cnt_f a, cnt_t b, ih']
        omega
      · rw [cnt_f (c := fun i => A i ∨ B i) (fun q => q.elim a b), cnt_f a, cnt_f b, ih']
theorem cnt_1 {p q : Nat} (h : q < p) : cnt p (fun i => i = q) = 1 := by
  induction p with
  | zero => omega
  | succ p ih =>
    by_cases e : p = q
    · rw [cnt_t (c := fun i => i = q) e, cnt_0.mpr (fun i hi c => by omega)]
    · rw [cnt_f (c := fun i => i = q) e, ih (by omega)]
theorem cnt_less {p q : Nat} {T S : Nat → Prop} (hq : q < p) (hT : T q) (hS : ¬ S q) (hST : ∀ i, i < p → S i → T i) : cnt p (fun e => e ≠ q ∧ T e ∧ ¬ S e) + cnt p S + 1 = cnt p T := by
  have e1 := cnt_add (p := p) (A := fun e => e ≠ q ∧ T e ∧ ¬ S e) (B := S) (fun i _ ⟨a, b⟩ => a.2.2 b)
  have e2 := cnt_add (p := p) (A := fun e => (e ≠ q ∧ T e ∧ ¬ S e) ∨ S e) (B := fun e => e = q) (fun i _ ⟨a, b⟩ => by
    subst b
    exact a.elim (fun z => z.1 rfl) hS)
  rw [cnt_1 hq, e1] at e2
  rw [← e2]
  refine cnt_c (fun i hi => ?_)
  constructor
  · rintro ((⟨_, z, _⟩ | z) | z)
    · exact z
    · exact hST i hi z
    · subst z; exact hT
  · intro z
    by_cases c : i = q
    · exact Or.inr c
    · by_cases c2 : S i
      · exact Or.inl (Or.inr c2)
      · exact Or.inl (Or.inl ⟨c, z, c2⟩)
/-- the town with a set let go, and other boots -/
def hF (p : Nat) (h : mH) (S one : Nat) (b : Int32) : mH := fun c k => if c = 65 ∧ k < p ∧ S.testBit k = true then 1 else if c = 57 ∧ k = one then b else h c k
theorem hF_o {p : Nat} {h : mH} {S one : Nat} {b : Int32} {c k : Nat} (h1 : c ≠ 65) (h2 : c ≠ 57) : hF p h S one b c k = h c k := by
  unfold hF
  rw [if_neg (fun q => h1 q.1), if_neg (fun q => h2 q.1)]
theorem hF_65 {p : Nat} {h : mH} {S one : Nat} {b : Int32} {k : Nat} : hF p h S one b 65 k = if k < p ∧ S.testBit k = true then 1 else h 65 k := by
  unfold hF
  by_cases c : k < p ∧ S.testBit k = true
  · rw [if_pos ⟨rfl, c⟩, if_pos c]
  · rw [if_neg (fun q => c q.2), if_neg c, if_neg (by omega)]
theorem hF_57 {p : Nat} {h : mH} {S one : Nat} {b : Int32} {k : Nat} : hF p h S one b 57 k = if k = one then b else h 57 k := by
  unfold hF
  rw [if_neg (by omega)]
  by_cases c : k = one
  · rw [if_pos ⟨rfl, c⟩, if_pos c]
  · rw [if_neg (fun q => c q.2), if_neg c]
theorem V_hF {n p : Nat} {h : mH} {S one : Nat} {b : Int32} (hV : V n p h) (hb : ix 10 b) : V n p (hF p h S one b) := by
  obtain ⟨v1, v2, v3, v4, v5, v6, v7, v8, v9, v10⟩ := hV
  refine ⟨v1, v2, (hF_o (by omega) (by omega)).trans v3, (hF_o (by omega) (by omega)).trans v4, fun i hi => ?_, fun i hi => ?_, fun i hi => ?_, fun i h1 h2 => ?_, ?_, ?_⟩
  · rw [hF_o (by omega) (by omega), hF_57]
    refine ⟨(v5 i hi).1, ?_⟩
    split
    · exact hb
    · exact (v5 i hi).2
  · rw [hF_o (c := 58) (by omega) (by omega), hF_o (c := 59) (by omega) (by omega), hF_o (c := 60) (by omega) (by omega), hF_o (c := 61) (by omega) (by omega), hF_o (c := 62) (by omega) (by omega), hF_o (c := 63) (by omega) (by omega)]
    exact v6 i hi
  · rw [hF_o (c := 64) (by omega) (by omega), hF_65]
    refine ⟨(v7 i hi).1, ?_⟩
    split
    · exact ⟨1, by omega, rfl⟩
    · exact (v7 i hi).2
  · rw [hF_o (c := 64) (by omega) (by omega), hF_65, if_neg (by omega)]
    exact v8 i h1 h2
  · rw [hF_o (by omega) (by omega)]; exact v9
  · rw [hF_o (by omega) (by omega)]; exact v10
/-- marks in a row -/
def mkS (S : Nat) (v : Int32) (g : mG) (k : Nat) : mG := (fun c m => if c = 65 ∧ m < k ∧ S.testBit m = true then v else g.1 c m, g.2)
theorem mkS_ne {S : Nat} {v : Int32} {g : mG} {k c m : Nat} (h : c ≠ 65) : (mkS S v g k).1 c m = g.1 c m := if_neg (fun q => h q.1)
theorem mkS_0 {S : Nat} {v : Int32} {g : mG} : mkS S v g 0 = g := Prod.ext (funext fun c => funext fun m => if_neg (by omega)) rfl
theorem mkS_r {S : Nat} {v : Int32} {g : mG} {k m : Nat} : (mkS S v g k).1 65 m = if m < k ∧ S.testBit m = true then v else g.1 65 m := by
  show (if 65 = 65 ∧ m < k ∧ S.testBit m = true then v else g.1 65 m) = _
  by_cases c : m < k ∧ S.testBit m = true
  · rw [if_pos ⟨rfl, c⟩, if_pos c]
  · rw [if_neg (fun q => c q.2), if_neg c]
theorem mkS_t {S : Nat} {v : Int32} {g : mG} {k : Nat} (h : S.testBit k = true) : m_s1 (mkS S v g k) 65 k v = mkS S v g (k + 1) := by
  refine Prod.ext (funext fun c => funext fun m => ?_) rfl
  rw [s1_r]
  by_cases c1 : c = 65
  · subst c1
    rw [if_pos rfl, mkS_r, mkS_r]
    by_cases c2 : m = k
    · subst c2
      rw [if_pos rfl, if_pos ⟨by omega, h⟩]
    · rw [if_neg c2]
      by_cases c3 : m < k ∧ S.testBit m = true
      · rw [if_pos c3, if_pos ⟨by omega, c3.2⟩]
      · rw [if_neg c3, if_neg (fun q => c3 ⟨by omega, q.2⟩)]
  · rw [if_neg c1, mkS_ne c1, mkS_ne c1]
theorem mkS_f {S : Nat} {v : Int32} {g : mG} {k : Nat} (h : ¬ S.testBit k = true) : mkS S v g k = mkS S v g (k + 1) := by
  refine Prod.ext (funext fun c => funext fun m => ?_) rfl
  by_cases c1 : c = 65
  · subst c1
    rw [mkS_r, mkS_r]
    by_cases c3 : m < k ∧ S.testBit m = true
    · rw [if_pos c3, if_pos ⟨by omega, c3.2⟩]
    · rw [if_neg c3, if_neg (fun q => c3 ⟨by
        have : m ≠ k := fun e => by rw [e] at q; exact h q.2
        omega, q.2⟩)]
  · rw [mkS_ne c1, mkS_ne c1]
theorem m_freesBy {W : mW} {n p : Nat} {h : mH} {g : mG} (hM : MC W n p h g) (d : Nat) (one S : Nat) (b : Int32) (h1 : one < n) (hb : ix 10 b) (hS : S < 4096) (hS2 : ∀ q, S.testBit q = true → q < p ∧ h 65 q = 0) : Ok (ev none (d + 7) mm_X12_freesBy 0 [.ref 55, .int (nI one), .int (nI S), .int b, .null, .null, .null] [] g) (fun r g2 => r = some (.int (b2 (¬ hld W p (hF p h S one b) (nI one) (h 56 one) (h 55 14)))) ∧ Fr s1 g g2) := by
  have hn : n ≤ 6 := hM.1.1
  have hp : p ≤ 12 := hM.1.2.1
  have hT := hM.2.1
  rw [b_X12_freesBy_0, mi_nI (by omega) (by omega), pk_cl one (hx := rfl)]
  refine ok_loop (E := fun k (_ : Unit) g' => ev none (d + 7) mm_X12_freesBy 11 [.ref 55, .int (nI one), .int (nI S), .int b, .int (g.1 57 one), .int (nI k), .null] [] g') (I := fun k _ g' => g' = mkS S 1 g k) (P := p) ?_ ?_ 0 () g (by omega) mkS_0.symm
  · intro k _ g' hk hg next
    have e4 : g'.1 55 4 = nI p := by rw [hg, mkS_ne (by omega)]; exact MC_p hM
    show Ok (ev none (d + 7) mm_X12_freesBy 11 [.ref 55, .int (nI one), .int (nI S), .int b, .int (g.1 57 one), .int (nI k), .null] [] g') _
    rw [b_X12_freesBy_11, e4, m_if_pos (nI_lt hk (by omega)), v_has _ _ S k (by omega) (by omega), mb_some, mp_some, b_X12_freesBy_26, mi_b2]
    refine ok_if (fun c => ?_) (fun c => ?_)
    · rw [mi_nI (by omega) (by omega), pk_cl k (hx := rfl), hg, mkS_t c, b_X12_freesBy_37, nI_1]
      exact next () _ rfl
    · rw [hg, b_X12_freesBy_37, nI_1]
      exact next () _ (mkS_f c)
  · intro _ g' hg
    have e4 : g'.1 55 4 = nI p := by rw [hg, mkS_ne (by omega)]; exact MC_p hM
    have e56 : g'.1 56 one = h 56 one := by rw [hg, mkS_ne (by omega)]; exact (hT.2.2.2.2 one).1
    have e14 : g'.1 55 14 = h 55 14 := by rw [hg, mkS_ne (by omega)]; exact hT.2.2.2.1
    show Ok (ev none (d + 7) mm_X12_freesBy 11 [.ref 55, .int (nI one), .int (nI S), .int b, .int (g.1 57 one), .int (nI p), .null] [] g') _
    rw [b_X12_freesBy_11, e4, m_if_neg (nI_nlt (Nat.le_refl _) (by omega)), mi_nI (by omega) (by omega), mi_nI (by omega) (by omega), pk_cl one (hx := rfl), e56, e14]
    have x1 : ∀ c k, c ≠ 65 → c ≠ 57 → (m_s1 g' 57 one b).1 c k = g.1 c k := fun c k c1 c2 => by
      rw [s1_ne c2, hg, mkS_ne c1]
    have hMF : MC W n p (hF p h S one b) (m_s1 g' 57 one b) := by
      refine ⟨V_hF hM.1 hb, ⟨?_, ?_, ?_, ?_, fun k => ⟨?_, ?_, ?_, ?_, ?_, ?_, ?_, ?_, ?_, ?_⟩⟩, ?_⟩
      · rw [x1 _ _ (by omega) (by omega), hF_o (by omega) (by omega)]; exact hT.1
      · rw [x1 _ _ (by omega) (by omega), hF_o (by omega) (by omega)]; exact hT.2.1
      · rw [x1 _ _ (by omega) (by omega), hF_o (by omega) (by omega)]; exact hT.2.2.1
      · rw [x1 _ _ (by omega) (by omega), hF_o (by omega) (by omega)]; exact hT.2.2.2.1
      · rw [x1 _ _ (by omega) (by omega), hF_o (by omega) (by omega)]; exact (hT.2.2.2.2 k).1
      · rw [s1_r, if_pos rfl, hF_57, hg, mkS_ne (by omega), (hT.2.2.2.2 k).2.1]
      · rw [x1 _ _ (by omega) (by omega), hF_o (by omega) (by omega)]; exact (hT.2.2.2.2 k).2.2.1
      · rw [x1 _ _ (by omega) (by omega), hF_o (by omega) (by omega)]; exact (hT.2.2.2.2 k).2.2.2.1
      · rw [x1 _ _ (by omega) (by omega), hF_o (by omega) (by omega)]; exact (hT.2.2.2.2 k).2.2.2.2.1
      · rw [x1 _ _ (by omega) (by omega), hF_o (by omega) (by omega)]; exact (hT.2.2.2.2 k).2.2.2.2.2.1
      · rw [x1 _ _ (by omega) (by omega), hF_o (by omega) (by omega)]; exact (hT.2.2.2.2 k).2.2.2.2.2.2.1
      · rw [x1 _ _ (by omega) (by omega), hF_o (by omega) (by omega)]; exact (hT.2.2.2.2 k).2.2.2.2.2.2.2.1
      · rw [x1 _ _ (by omega) (by omega), hF_o (by omega) (by omega)]; exact (hT.2.2.2.2 k).2.2.2.2.2.2.2.2.1
      · rw [s1_ne (by omega), hg, mkS_r, hF_65, (hT.2.2.2.2 k).2.2.2.2.2.2.2.2.2]
      · unfold LM
        rw [x1 _ _ (by omega) (by omega)]
        rcases hM.2.2 with h3 | ⟨h3, h4⟩
        · exact Or.inl h3
        · exact Or.inr ⟨h3, ML_fr (fun j hj => ⟨x1 _ _ (by omega) (by omega), x1 _ _ (by omega) (by omega)⟩) (x1 _ _ (by omega) (by omega)) (fun j hj => ⟨x1 _ _ (by omega) (by omega), x1 _ _ (by omega) (by omega)⟩) h4⟩
    refine ok_bnd (m_isHeld hMF d _ _ _) ?_
    intro r g2 ⟨hr, F2⟩
    subst hr
    have fin : ∀ c : Prop, Ok (ev none (d + 7) mm_X12_freesBy 73 [.ref 55, .int (nI one), .int (nI S), .int b, .int (g.1 57 one), .int (nI p), .null] [.int (b2 c)] g2) (fun r g3 => r = some (.int (b2 c)) ∧ Fr s1 g g3) := by
      intro c
      rw [b_X12_freesBy_73, mi_nI (by omega) (by omega), pk_cl one (hx := rfl)]
      generalize hg3 : m_s1 g2 57 one (g.1 57 one) = g3
      refine ok_loop (E := fun k (_ : Unit) g' => ev none (d + 7) mm_X12_freesBy 86 [.ref 55, .int (nI one), .int (nI S), .int b, .int (g.1 57 one), .int (b2 c), .int (nI k)] [] g') (I := fun k _ g' => g' = mkS S 0 g3 k) (P := p) ?_ ?_ 0 () g3 (by omega) mkS_0.symm
      · intro k _ g4 hk hg4 next
        have e4' : g4.1 55 4 = nI p := by
          rw [hg4, mkS_ne (by omega), ← hg3, s1_ne (by omega), F2.1 55 4 rfl, x1 _ _ (by omega) (by omega)]
          exact MC_p hM
        show Ok (ev none (d + 7) mm_X12_freesBy 86 [.ref 55, .int (nI one), .int (nI S), .int b, .int (g.1 57 one), .int (b2 c), .int (nI k)] [] g4) _
        rw [b_X12_freesBy_86, e4', m_if_pos (nI_lt hk (by omega)), v_has _ _ S k (by omega) (by omega), mb_some, mp_some, b_X12_freesBy_101, mi_b2]
        refine ok_if (fun c => ?_) (fun c => ?_)
        · rw [mi_nI (by omega) (by omega), pk_cl k (hx := rfl), hg4, mkS_t c, b_X12_freesBy_112, nI_1]
          exact next () _ rfl
        · rw [hg4, b_X12_freesBy_112, nI_1]
          exact next () _ (mkS_f c)
      · intro _ g4 hg4
        have e4' : g4.1 55 4 = nI p := by
          rw [hg4, mkS_ne (by omega), ← hg3, s1_ne (by omega), F2.1 55 4 rfl, x1 _ _ (by omega) (by omega)]
          exact MC_p hM
        show Ok (ev none (d + 7) mm_X12_freesBy 86 [.ref 55, .int (nI one), .int (nI S), .int b, .int (g.1 57 one), .int (b2 c), .int (nI p)] [] g4) _
        rw [b_X12_freesBy_86, e4', m_if_neg (nI_nlt (Nat.le_refl _) (by omega)), if_pos (b2_and _)]
        refine ok_some ⟨rfl, fun c k hc => ?_, fun c k hc => ?_⟩
        · by_cases c65 : c = 65
          · subst c65
            rw [hg4, mkS_r]
            by_cases q : k < p ∧ S.testBit k = true
            · rw [if_pos q, (hT.2.2.2.2 k).2.2.2.2.2.2.2.2.2, (hS2 k q.2).2]
            · rw [if_neg q, ← hg3, s1_ne (by omega), F2.1 65 k rfl, s1_ne (by omega), hg, mkS_r, if_neg q]
          · rw [hg4, mkS_ne c65, ← hg3]
            by_cases c57 : c = 57
            · subst c57
              rw [s1_r, if_pos rfl]
              by_cases q : k = one
              · rw [if_pos q, q]
              · rw [if_neg q, F2.1 57 k rfl, s1_same q, hg, mkS_ne (by omega)]
            · rw [s1_ne c57, F2.1 c k hc, x1 _ _ c65 c57]
        · rw [hg4]
          show g3.2 c k = _
          rw [← hg3]
          show g2.2 c k = _
          rw [F2.2 c k hc]
          show g'.2 c k = _
          rw [hg]
          rfl
    rw [mp_some, b_X12_freesBy_65, mi_b2]
    by_cases c : hld W p (hF p h S one b) (nI one) (h 56 one) (h 55 14)
    · rw [m_if_pos c, b2_f (fun q => q c)]
      have := fin False
      rw [b2_f (fun q => q)] at this
      exact this
    · rw [m_if_neg c, b2_t c]
      have := fin True
      rw [b2_t trivial] at this
      exact this
/-- those that are on where one stands -/
noncomputable def TT (p : Nat) (h : mH) (one : Nat) : Nat := bts p (kpA h (nI one) (h 56 one) (h 55 14))
theorem TT_bit {p : Nat} {h : mH} {one q : Nat} : (TT p h one).testBit q = true ↔ q < p ∧ kpA h (nI one) (h 56 one) (h 55 14) q := bts_bit q
/-- free by a set: none of the rest holds -/
def FR (W : mW) (p : Nat) (h : mH) (one : Nat) (b : Int32) (S : Nat) : Prop := ¬ ∃ q, q < p ∧ (TT p h one).testBit q = true ∧ ¬ S.testBit q = true ∧ ¬ cl (W (h 61 q) (lf h (h 55 14) q) b (nI (pop (TT p h one) - pop S - 1)) (h 64 q) (h 55 14)) < h 55 13
theorem pop_TT {n p : Nat} {h : mH} (hV : V n p h) (one : Nat) : pop (TT p h one) = cnt p (fun i => (TT p h one).testBit i = true) := pop_k bts_lt (by have := hV.2.1; omega)
theorem pop_S {p S : Nat} {h : mH} {one : Nat} (hp : p ≤ 12) (hS : sub S (TT p h one)) : pop S = cnt p (fun i => S.testBit i = true) := by
  refine pop_k ?_ (by omega)
  have h1 := sub_le hS
  have h2 : TT p h one < 2 ^ p := bts_lt
  omega
theorem FR_hld {W : mW} {n p : Nat} {h : mH} (hV : V n p h) {one S : Nat} {b : Int32} (h1 : one < n) (hS : sub S (TT p h one)) : ¬ hld W p (hF p h S one b) (nI one) (h 56 one) (h 55 14) ↔ FR W p h one b S := by
  have hn : n ≤ 6 := hV.1
  have hp : p ≤ 12 := hV.2.1
  unfold FR
  refine not_congr ?_
  have on : ∀ e, e < p → (onP (hF p h S one b) (h 55 14) e ↔ (¬ S.testBit e = true ∧ onP h (h 55 14) e)) := by
    intro e he
    unfold onP
    rw [hF_65, hF_o (c := 62) (by omega) (by omega), hF_o (c := 63) (by omega) (by omega)]
    by_cases c : S.testBit e = true
    · rw [if_pos ⟨he, c⟩]
      exact ⟨fun z => absurd z.1 (by decide), fun z => absurd c z.1⟩
    · rw [if_neg (fun q => c q.2)]
      exact ⟨fun z => ⟨c, z⟩, fun z => z.2⟩
  have key : ∀ q, q < p → (grA W p (hF p h S one b) (nI one) (h 56 one) (h 55 14) q ↔ ((TT p h one).testBit q = true ∧ ¬ S.testBit q = true ∧ ¬ cl (W (h 61 q) (lf h (h 55 14) q) b (nI (pop (TT p h one) - pop S - 1)) (h 64 q) (h 55 14)) < h 55 13)) := by
    intro q hq
    unfold grA grp
    rw [on q hq, hF_o (c := 58) (by omega) (by omega), hF_o (c := 60) (by omega) (by omega), hF_o (c := 55) (k := 13) (by omega) (by omega), TT_bit]
    have hdq : h 58 q = nI one → h 60 q = h 56 one → ¬ S.testBit q = true → onP h (h 55 14) q → hd W p (hF p h S one b) (h 55 14) q = cl (W (h 61 q) (lf h (h 55 14) q) b (nI (pop (TT p h one) - pop S - 1)) (h 64 q) (h 55 14)) := by
      intro e58 e60 nS ho
      have ot : oth p (hF p h S one b) (h 55 14) q = pop (TT p h one) - pop S - 1 := by
        have hTq : (TT p h one).testBit q = true := TT_bit.mpr ⟨hq, e58, e60, ho⟩
        have c1 := cnt_less (p := p) (q := q) (T := fun i => (TT p h one).testBit i = true) (S := fun i => S.testBit i = true) hq hTq nS (fun i _ hi => hS i hi)
        have c2 : oth p (hF p h S one b) (h 55 14) q = cnt p (fun e => e ≠ q ∧ (TT p h one).testBit e = true ∧ ¬ S.testBit e = true) := by
          refine cnt_c (fun e he => ?_)
          unfold othP
          rw [on e he, hF_o (c := 58) (by omega) (by omega), hF_o (c := 58) (by omega) (by omega), hF_o (c := 60) (by omega) (by omega), hF_o (c := 60) (by omega) (by omega), e58, e60, TT_bit]
          exact ⟨fun ⟨z1, z2, z3, z4, z5⟩ => ⟨z1, ⟨he, z2, z3, z5⟩, z4⟩, fun ⟨z1, ⟨_, z2, z3, z5⟩, z4⟩ => ⟨z1, z2, z3, z4, z5⟩⟩
        rw [pop_TT hV, pop_S hp hS, c2]
        omega
      unfold hd
      rw [ot, hF_o (c := 61) (by omega) (by omega), hF_o (c := 64) (by omega) (by omega), hF_o (c := 58) (by omega) (by omega), e58, nI_clamp (by omega), hF_57, if_pos rfl]
      congr 2
    constructor
    · intro ⟨z1, z2, ⟨z3, z4⟩, z5⟩
      rw [hdq z1 z2 z3 z4] at z5
      exact ⟨⟨hq, z1, z2, z4⟩, z3, z5⟩
    · intro ⟨⟨_, z1, z2, z4⟩, z3, z5⟩
      rw [← hdq z1 z2 z3 z4] at z5
      exact ⟨z1, z2, ⟨z3, z4⟩, z5⟩
  constructor
  · intro ⟨q, hq, z⟩
    obtain ⟨z1, z2, z3⟩ := (key q hq).mp z
    exact ⟨q, hq, z1, z2, z3⟩
  · intro ⟨q, hq, z⟩
    exact ⟨q, hq, (key q hq).mpr z⟩
/-- what the class foresees -/
noncomputable def GL (W : mW) (p : Nat) (h : mH) (T M : Nat) (bl : Nat → Int32) (less : Nat) : Nat := bts p (fun q => T.testBit q = true ∧ less < pop T ∧ less ≤ M ∧ ¬ hdG W h (h 55 14) q (bl less) (nI (pop T - less - 1)) (h 64 q) < h 55 13)
theorem x_foresee {W : mW} {n p : Nat} {h : mH} {g : mG} (hX : XR W n p h g) (d : Nat) (T M : Nat) (hT : T < 4096) (hM : M ≤ 12) (fl : Int32) (bl : Nat → Int32) (hbl : ∀ k, k < 13 → (if fl = 0 then (0 : Int32) else nI k) = bl k) : Ok (ev none (d + 4) mm_X5_foresee 0 [.ref 23, .int (nI T), .int (nI M), .int fl, .null, .null, .null, .null] [] g) (fun r g2 => r = none ∧ Fr sA g g2 ∧ ∀ k, k < 13 → g2.1 24 k = nI (GL W p h T M bl k)) := by
  have hp : p ≤ 12 := hX.1.2.1
  have hday := V_day hX.1
  have hpT := pop_12 hT
  obtain ⟨g', e1, F1, hXM, hR⟩ := x_now hX (d + 3)
  rw [b_X5_foresee_0, v_bitCount _ _ _ hT, mb_some, mp_some, b_X5_foresee_4, e1, mb_some, mp_some, b_X5_foresee_13]
  refine ok_loop (E := fun k (v7 : Value) g => ev none (d + 4) mm_X5_foresee 18 [.ref 23, .int (nI T), .int (nI M), .int fl, .int (nI (pop T)), .ref 15, .int (nI k), v7] [] g) (I := fun k _ g3 => Fr sA g g3 ∧ (∀ j, j < k → g3.1 24 j = nI (GL W p h T M bl j)) ∧ g3.1 15 0 = h 55 14 ∧ BT (g3.1 15 2) (h 64)) (P := 13) ?_ ?_ 0 .null g' (by omega) ⟨fr_2A F1, fun j hj => by omega, hXM.2.2.2.1, hXM.2.2.2.2.2.1⟩
  · intro k v7 g3 hk ⟨i1, i2, i3, i4⟩ next
    have go45 : Ok (ev none (d + 4) mm_X5_foresee 45 [.ref 23, .int (nI T), .int (nI M), .int fl, .int (nI (pop T)), .ref 15, .int (nI k), v7] [.int (bl k), .ref 15] (m_s1 g3 24 k 0)) (fun r g2 => r = none ∧ Fr sA g g2 ∧ ∀ k, k < 13 → g2.1 24 k = nI (GL W p h T M bl k)) := by
      rw [b_X5_foresee_45]
      generalize hg4 : m_s1 (m_s1 g3 24 k 0) 15 3 (bl k) = g4
      have j1 : Fr sA g g4 := by
        rw [← hg4]
        exact fr_s1 (fr_s1 i1 rfl) rfl
      have j2 : ∀ j, j < k → g4.1 24 j = nI (GL W p h T M bl j) := fun j hj => by
        rw [← hg4, s1_ne (by omega), s1_same (by omega), i2 j hj]
      have j3 : g4.1 15 0 = h 55 14 := by
        rw [← hg4, s1_same (by omega), s1_ne (by omega), i3]
      have j4 : BT (g4.1 15 2) (h 64) := by
        rw [← hg4, s1_same (by omega), s1_ne (by omega)]
        exact i4
      have j5 : g4.1 15 3 = bl k := by rw [← hg4, s1_at]
      have j6 : g4.1 24 k = nI 0 := by
        rw [← hg4, s1_ne (by omega), s1_at]
        rfl
      have out : ∀ (q : Nat) (g5 : mG), Fr sA g g5 → (∀ j, j < k → g5.1 24 j = nI (GL W p h T M bl j)) → g5.1 15 0 = h 55 14 → BT (g5.1 15 2) (h 64) → g5.1 24 k = nI (GL W p h T M bl k) → Ok (ev none (d + 4) mm_X5_foresee 133 [.ref 23, .int (nI T), .int (nI M), .int fl, .int (nI (pop T)), .ref 15, .int (nI k), .int (nI q)] [] g5) (fun r g2 => r = none ∧ Fr sA g g2 ∧ ∀ k, k < 13 → g2.1 24 k = nI (GL W p h T M bl k)) := by
        intro q g5 a1 a2 a3 a4 a5
        rw [b_X5_foresee_133, nI_1]
        refine next (.int (nI q)) g5 ⟨a1, fun j hj => ?_, a3, a4⟩
        by_cases e : j = k
        · subst e; exact a5
        · exact a2 j (by omega)
      by_cases c : k < pop T ∧ k ≤ M
      · have eo : nI (pop T) - nI k - 1 = nI (pop T - k - 1) := by
          rw [pk_sub (by omega)]
          exact pk_sub (b := 1) (by omega)
        refine ok_loop (E := fun q (_ : Unit) g => ev none (d + 4) mm_X5_foresee 51 [.ref 23, .int (nI T), .int (nI M), .int fl, .int (nI (pop T)), .ref 15, .int (nI k), .int (nI q)] [] g) (I := fun q _ g5 => Fr sA g g5 ∧ (∀ j, j < k → g5.1 24 j = nI (GL W p h T M bl j)) ∧ g5.1 15 0 = h 55 14 ∧ BT (g5.1 15 2) (h 64) ∧ g5.1 15 3 = bl k ∧ g5.1 24 k = nI (bts q (fun q => T.testBit q = true ∧ k < pop T ∧ k ≤ M ∧ ¬ hdG W h (h 55 14) q (bl k) (nI (pop T - k - 1)) (h 64 q) < h 55 13))) (P := p) ?_ ?_ 0 () g4 (by omega) ⟨j1, j2, j3, j4, j5, j6⟩
        · intro q _ g5 hq ⟨a1, a2, a3, a4, a5, a6⟩ next2
          have hX5 := XR_fr a1 hX
          have step : ∀ g6, Fr sA g g6 → (∀ j, j < k → g6.1 24 j = nI (GL W p h T M bl j)) → g6.1 15 0 = h 55 14 → BT (g6.1 15 2) (h 64) → g6.1 15 3 = bl k → g6.1 24 k = nI (bts (q + 1) (fun q => T.testBit q = true ∧ k < pop T ∧ k ≤ M ∧ ¬ hdG W h (h 55 14) q (bl k) (nI (pop T - k - 1)) (h 64 q) < h 55 13)) → Ok (ev none (d + 4) mm_X5_foresee 127 [.ref 23, .int (nI T), .int (nI M), .int fl, .int (nI (pop T)), .ref 15, .int (nI k), .int (nI q)] [] g6) (fun r g2 => r = none ∧ Fr sA g g2 ∧ ∀ k, k < 13 → g2.1 24 k = nI (GL W p h T M bl k)) := by
            intro g6 b1 b2 b3 b4 b5 b6
            rw [b_X5_foresee_127, nI_1]
            exact next2 () g6 ⟨b1, b2, b3, b4, b5, b6⟩
          show Ok (ev none (d + 4) mm_X5_foresee 51 [.ref 23, .int (nI T), .int (nI M), .int fl, .int (nI (pop T)), .ref 15, .int (nI k), .int (nI q)] [] g5) _
          rw [b_X5_foresee_51, hX5.2.1.2.1, m_if_pos (nI_lt hq (by omega)), m_if_pos (nI_lt c.1 (by omega)), m_if_neg (nI_nlt c.2 (by omega)), v_hasBit _ _ T q (by omega) (by omega), mb_some, mp_some, b_X5_foresee_82, mi_b2]
          refine ok_if (fun c1 => ?_) (fun c1 => step g5 a1 a2 a3 a4 a5 (by rw [bts_f (fun x => c1 x.1), a6]))
          obtain ⟨Fb, f1, f2, f3⟩ := a4
          rw [eo]
          refine ok_bnd (x_hardG hX5.1 (RX_XT hX5.2.1) hX5.2.2 a3 hday Fb f1 f2 d q hq _) ?_
          intro r g6 ⟨hr, F6⟩
          subst hr
          rw [a5, ← f3 q (by omega), mp_some, b_X5_foresee_103, F6.1 1 16 rfl, hX5.2.1.2.2.2.2.2.2.1]
          have b1 : Fr sA g g6 := fr_trans a1 (fr_1A F6)
          have b2' : ∀ j, j < k → g6.1 24 j = nI (GL W p h T M bl j) := fun j hj => (F6.1 24 j rfl).trans (a2 j hj)
          have b3 : g6.1 15 0 = h 55 14 := (F6.1 15 0 rfl).trans a3
          have b4 : BT (g6.1 15 2) (h 64) := by rw [F6.1 15 2 rfl]; exact ⟨Fb, f1, f2, f3⟩
          have b5 : g6.1 15 3 = bl k := (F6.1 15 3 rfl).trans a5
          have b6 : g6.1 24 k = nI (bts q (fun q => T.testBit q = true ∧ k < pop T ∧ k ≤ M ∧ ¬ hdG W h (h 55 14) q (bl k) (nI (pop T - k - 1)) (h 64 q) < h 55 13)) := (F6.1 24 k rfl).trans a6
          refine ok_if (fun c2 => step g6 b1 b2' b3 b4 b5 (by rw [bts_f (fun x => x.2.2.2 c2), b6])) (fun c2 => ?_)
          rw [mi_nI (by omega) (by omega), mi_nI (by omega) (by omega), pk_cl k (hx := rfl), b6, t_or1 (by omega)]
          refine step _ (fr_s1 b1 rfl) (fun j hj => ?_) ?_ ?_ ?_ ?_
          · rw [s1_same (by omega), b2' j hj]
          · rw [s1_ne (by omega), b3]
          · rw [s1_ne (by omega)]; exact b4
          · rw [s1_ne (by omega), b5]
          · rw [s1_at, bts_t ⟨c1, c.1, c.2, c2⟩]
        · intro _ g5 ⟨a1, a2, a3, a4, a5, a6⟩
          have hX5 := XR_fr a1 hX
          show Ok (ev none (d + 4) mm_X5_foresee 51 [.ref 23, .int (nI T), .int (nI M), .int fl, .int (nI (pop T)), .ref 15, .int (nI k), .int (nI p)] [] g5) _
          rw [b_X5_foresee_51, hX5.2.1.2.1, m_if_neg (nI_nlt (Nat.le_refl _) (by omega))]
          exact out p g5 a1 a2 a3 a4 a6
      · have hz : GL W p h T M bl k = 0 := bts_0.mpr (fun i _ z => c ⟨z.2.1, z.2.2.1⟩)
        have fin := out 0 g4 j1 j2 j3 j4 (by rw [hz, j6])
        have hX4 := XR_fr j1 hX
        rw [b_X5_foresee_51, hX4.2.1.2.1]
        refine ok_if (fun _ => ?_) (fun _ => fin)
        refine ok_if (fun c1 => ?_) (fun _ => fin)
        refine ok_if (fun _ => fin) (fun c2 => ?_)
        exact absurd ⟨(nI_ltI (by omega) (by omega)).mp c1, Decidable.byContradiction (fun z => c2 (nI_lt (by omega) (by omega)))⟩ c
    show Ok (ev none (d + 4) mm_X5_foresee 18 [.ref 23, .int (nI T), .int (nI M), .int fl, .int (nI (pop T)), .ref 15, .int (nI k), v7] [] g3) _
    rw [b_X5_foresee_18, m_if_neg (show ¬ 12 < nI k from nI_nlt (a := 12) (by omega) (by omega)), mi_nI (by omega) (by omega), pk_cl k (hx := rfl)]
    have hb := hbl k hk
    refine ok_if (fun c => ?_) (fun c => ?_)
    · rw [if_pos c] at hb
      have := go45
      rw [← hb] at this
      exact this
    · rw [if_neg c] at hb
      have := go45
      rw [← hb] at this
      exact this
  · intro v7 g3 ⟨i1, i2, i3, i4⟩
    show Ok (ev none (d + 4) mm_X5_foresee 18 [.ref 23, .int (nI T), .int (nI M), .int fl, .int (nI (pop T)), .ref 15, .int (nI 13), v7] [] g3) _
    rw [b_X5_foresee_18, m_if_pos (show (12 : Int32) < nI 13 by decide)]
    exact ok_some ⟨rfl, i1, i2⟩
theorem x_isFree {W : mW} {n p : Nat} {h : mH} (hV : V n p h) {g : mG} {one M S : Nat} {bl : Nat → Int32} (h1 : one < n) (hG : ∀ k, k < 13 → g.1 24 k = nI (GL W p h (TT p h one) M bl k)) (hS : sub S (TT p h one)) (hM : pop S ≤ M) (d : Nat) : ev none (d + 1) mm_X5_isFree 0 [.ref 23, .int (nI (TT p h one)), .int (nI S)] [] g = some (some (.int (b2 (FR W p h one (h 57 one - bl (pop S)) S))), g) := by
  have hp : p ≤ 12 := hV.2.1
  have hn : n ≤ 6 := hV.1
  have hT : TT p h one < 4096 := bts_12 hp
  have hS12 : S < 4096 := Nat.lt_of_le_of_lt (sub_le hS) hT
  have eST : S &&& TT p h one = S := Nat.eq_of_testBit_eq (fun i => by
    rw [Nat.testBit_and]
    cases e : S.testBit i with
    | false => rfl
    | true => rw [hS i e]; rfl)
  have hpS := pop_12 hS12
  have hlt : adn (TT p h one) S &&& GL W p h (TT p h one) M bl (pop S) < 4096 := Nat.lt_of_le_of_lt Nat.and_le_left (Nat.lt_of_le_of_lt (adn_le _ _) hT)
  rw [b_X5_isFree_0, t_and, eST, v_bitCount _ _ _ hS12, mb_some, mp_some, b_X5_isFree_15, mi_nI (by omega) (by omega), pk_cl (pop S) (hx := rfl), hG _ (by omega), t_not, t_and, mi_tt]
  refine congrArg (fun z => some (some (Value.int z), g)) (b2_c ?_)
  rw [show (0 : Int32) = nI 0 from rfl, nI_eq (by omega) (by omega)]
  unfold FR
  have hgd : ∀ q, q < p → (TT p h one).testBit q = true → hdG W h (h 55 14) q (bl (pop S)) (nI (pop (TT p h one) - pop S - 1)) (h 64 q) = cl (W (h 61 q) (lf h (h 55 14) q) (h 57 one - bl (pop S)) (nI (pop (TT p h one) - pop S - 1)) (h 64 q) (h 55 14)) := by
    intro q hq hb
    unfold hdG
    rw [(TT_bit.mp hb).2.1, nI_clamp (by omega)]
  constructor
  · intro z ⟨q, hq, q1, q2, q3⟩
    have c1 := cnt_less (p := p) (q := q) (T := fun i => (TT p h one).testBit i = true) (S := fun i => S.testBit i = true) hq q1 q2 (fun i _ hi => hS i hi)
    rw [← pop_TT hV, ← pop_S hp hS] at c1
    have hb : (adn (TT p h one) S &&& GL W p h (TT p h one) M bl (pop S)).testBit q = true := by
      rw [Nat.testBit_and, Bool.and_eq_true, adn_bit, Bool.and_eq_true, Bool.not_eq_true']
      refine ⟨⟨q1, by cases e : S.testBit q with | false => rfl | true => exact absurd e q2⟩, (bts_bit q).mpr ⟨hq, q1, by omega, hM, ?_⟩⟩
      rw [hgd q hq q1]
      exact q3
    rw [z, Nat.zero_testBit] at hb
    exact absurd hb (by decide)
  · intro z
    refine Nat.eq_of_testBit_eq (fun i => ?_)
    rw [Nat.zero_testBit]
    cases e : (adn (TT p h one) S &&& GL W p h (TT p h one) M bl (pop S)).testBit i with
    | false => rfl
    | true =>
      rw [Nat.testBit_and, Bool.and_eq_true, adn_bit, Bool.and_eq_true, Bool.not_eq_true'] at e
      obtain ⟨⟨q1, q2⟩, q3⟩ := e
      obtain ⟨hi, _, _, _, q4⟩ := (bts_bit i).mp q3
      rw [hgd i hi q1] at q4
      exact absurd ⟨i, hi, q1, by rw [q2]; decide, q4⟩ z
