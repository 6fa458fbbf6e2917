/-! IN THOUGHT (3): the best steps -/
abbrev mBs := Nat × (Nat → Nat)
def pst (q : Nat → Nat) (k v : Nat) : Nat → Nat := fun i => if i = k then v else q i
def gbF (F : Nat → mBs → mBs) : Nat → mBs → mBs
  | 0, s => s
  | v + 1, s => F v (gbF F v s)
/-- first comes the heaviest; a state is (its weight and one, its ways) -/
noncomputable def gb (H : Nat → Nat → Prop) (B : Nat → Nat → Nat) (wt : Nat → Nat) : Nat → Nat → Nat → Nat → (Nat → Nat) → mBs → mBs
  | 0, _, _, b, q, s => if s.1 < wt b + 1 then (wt b + 1, q) else s
  | r + 1, k, pl, b, q, s => @ite _ (H k pl) (Classical.propDecidable _) (gb H B wt r (k + 1) pl (b ||| B (k + 1) pl) (pst q k 0) s) (gbF (fun v => gb H B wt r (k + 1) (st pl v) (b ||| B (k + 1) (st pl v)) (pst q k v)) 5 s)
noncomputable def mxl (H : Nat → Nat → Prop) (B : Nat → Nat → Nat) (wt : Nat → Nat) : Nat → Nat → Nat → Nat → Nat → Prop
  | 0, _, _, b, m => wt b + 1 ≤ m
  | r + 1, k, pl, b, m => @ite _ (H k pl) (Classical.propDecidable _) (mxl H B wt r (k + 1) pl (b ||| B (k + 1) pl) m) (∀ v, v < 5 → mxl H B wt r (k + 1) (st pl v) (b ||| B (k + 1) (st pl v)) m)
theorem gbF_le {F : Nat → mBs → mBs} (h : ∀ v s, s.1 ≤ (F v s).1) : ∀ n s, s.1 ≤ (gbF F n s).1 := by
  intro n
  induction n with
  | zero => intro s; exact Nat.le_refl _
  | succ n ih => intro s; exact Nat.le_trans (ih s) (h n _)
theorem gb_le {H : Nat → Nat → Prop} {B : Nat → Nat → Nat} {wt : Nat → Nat} : ∀ r k pl b q s, s.1 ≤ (gb H B wt r k pl b q s).1 := by
  intro r
  induction r with
  | zero =>
    intro k pl b q s
    show s.1 ≤ (if s.1 < wt b + 1 then (wt b + 1, q) else s).1
    split
    · next c => exact Nat.le_of_lt c
    · exact Nat.le_refl _
  | succ r ih =>
    intro k pl b q s
    show s.1 ≤ (@ite _ (H k pl) (Classical.propDecidable _) _ _ : mBs).1
    by_cases c : H k pl
    · rw [if_pos c]; exact ih _ _ _ _ _
    · rw [if_neg c]; exact gbF_le (fun v s => ih _ _ _ _ _) 5 s
theorem mxl_mono {H : Nat → Nat → Prop} {B : Nat → Nat → Nat} {wt : Nat → Nat} : ∀ r k pl b m m2, m ≤ m2 → mxl H B wt r k pl b m → mxl H B wt r k pl b m2 := by
  intro r
  induction r with
  | zero =>
    intro k pl b m m2 h h1
    exact Nat.le_trans h1 h
  | succ r ih =>
    intro k pl b m m2 h h1
    unfold mxl at h1 ⊢
    by_cases c : H k pl
    · rw [if_pos c] at h1 ⊢; exact ih _ _ _ _ _ h h1
    · rw [if_neg c] at h1 ⊢; exact fun v hv => ih _ _ _ _ _ h (h1 v hv)
theorem gb_mx {H : Nat → Nat → Prop} {B : Nat → Nat → Nat} {wt : Nat → Nat} : ∀ r k pl b q s, mxl H B wt r k pl b (gb H B wt r k pl b q s).1 := by
  intro r
  induction r with
  | zero =>
    intro k pl b q s
    show wt b + 1 ≤ (if s.1 < wt b + 1 then (wt b + 1, q) else s).1
    split
    · exact Nat.le_refl _
    · next c => omega
  | succ r ih =>
    intro k pl b q s
    unfold mxl gb
    by_cases c : H k pl
    · rw [if_pos c, if_pos c]; exact ih _ _ _ _ _
    · rw [if_neg c, if_neg c]
      intro v hv
      have key : ∀ n s, ∀ v, v < n → mxl H B wt r (k + 1) (st pl v) (b ||| B (k + 1) (st pl v)) (gbF (fun v => gb H B wt r (k + 1) (st pl v) (b ||| B (k + 1) (st pl v)) (pst q k v)) n s).1 := by
        intro n
        induction n with
        | zero => intro s v hv; omega
        | succ n ihn =>
          intro s v hv
          by_cases e : v = n
          · subst e; exact ih _ _ _ _ _
          · exact mxl_mono _ _ _ _ _ _ (gb_le _ _ _ _ _ _) (ihn s v (by omega))
      exact key 5 s v hv
theorem gb_id {H : Nat → Nat → Prop} {B : Nat → Nat → Nat} {wt : Nat → Nat} : ∀ r k pl b q s, mxl H B wt r k pl b s.1 → gb H B wt r k pl b q s = s := by
  intro r
  induction r with
  | zero =>
    intro k pl b q s h
    show (if s.1 < wt b + 1 then (wt b + 1, q) else s) = s
    have h' : wt b + 1 ≤ s.1 := h
    rw [if_neg (by omega)]
  | succ r ih =>
    intro k pl b q s h
    unfold mxl at h
    unfold gb
    by_cases c : H k pl
    · rw [if_pos c] at h ⊢; exact ih _ _ _ _ _ h
    · rw [if_neg c] at h ⊢
      have key : ∀ n, n ≤ 5 → gbF (fun v => gb H B wt r (k + 1) (st pl v) (b ||| B (k + 1) (st pl v)) (pst q k v)) n s = s := by
        intro n
        induction n with
        | zero => intro _; rfl
        | succ n ihn =>
          intro hn
          show gb H B wt r (k + 1) (st pl n) (b ||| B (k + 1) (st pl n)) (pst q k n) (gbF _ n s) = s
          rw [ihn (by omega)]
          exact ih _ _ _ _ _ (h n (by omega))
      exact key 5 (by omega)
theorem mxl_1 {H : Nat → Nat → Prop} {B : Nat → Nat → Nat} {wt : Nat → Nat} : ∀ r k pl b m, mxl H B wt r k pl b m → 1 ≤ m := by
  intro r
  induction r with
  | zero =>
    intro k pl b m h
    have h' : wt b + 1 ≤ m := h
    omega
  | succ r ih =>
    intro k pl b m h
    unfold mxl at h
    by_cases c : H k pl
    · rw [if_pos c] at h; exact ih _ _ _ _ h
    · rw [if_neg c] at h; exact ih _ _ _ _ (h 0 (by omega))
theorem gb_1000 {H : Nat → Nat → Prop} {B : Nat → Nat → Nat} {wt : Nat → Nat} (hw : ∀ b, wt b < 900) : ∀ r k pl b q s, s.1 < 1000 → (gb H B wt r k pl b q s).1 < 1000 := by
  intro r
  induction r with
  | zero =>
    intro k pl b q s h
    show (if s.1 < wt b + 1 then (wt b + 1, q) else s).1 < 1000
    have := hw b
    split
    · show wt b + 1 < 1000
      omega
    · exact h
  | succ r ih =>
    intro k pl b q s h
    unfold gb
    by_cases c : H k pl
    · rw [if_pos c]; exact ih _ _ _ _ _ h
    · rw [if_neg c]
      have key : ∀ n, (gbF (fun v => gb H B wt r (k + 1) (st pl v) (b ||| B (k + 1) (st pl v)) (pst q k v)) n s).1 < 1000 := by
        intro n
        induction n with
        | zero => exact h
        | succ n ihn => exact ih _ _ _ _ _ ihn
      exact key 5
theorem bw_lt {M w : Nat} (hM : M < 1000) (hw : w < 1000) : (nI M - 1 < nI w) ↔ M < w + 1 := by
  have e := pk_sub_toInt (a := M) (b := 1) (by omega) (by omega)
  rw [Int32.lt_iff_toInt_lt, nI_toInt (by omega), show (nI M - 1).toInt = (nI M - nI 1).toInt from rfl, e]
  omega
/-- the class's cells tell such a state -/
def sTW (c k : Nat) : Bool := (c == 19 && k == 4) || c == 21 || c == 22
theorem tw_A {c k : Nat} (h : sA c k = false) : sTW c k = false := by
  unfold sTW
  simp only [Bool.or_eq_false_iff]
  refine ⟨⟨?_, ?_⟩, ?_⟩
  · by_cases e : c = 19
    · subst e; exact absurd h (by simp [sA])
    · simp [e]
  · by_cases e : c = 21
    · subst e; exact absurd h (by simp [sA])
    · simp [e]
  · by_cases e : c = 22
    · subst e; exact absurd h (by simp [sA])
    · simp [e]
theorem fr_tw {g g' : mG} (F : Fr sTW g g') : Fr sA g g' := fr_mono F (fun _ _ e => tw_A e)
theorem TH_tw {W : mW} {p : Nat} {h : mH} {one D : Nat} {g g' : mG} (F : Fr sTW g g') (hT : TH W p h one D g) : TH W p h one D g' := ⟨(F.1 19 5 rfl).trans hT.1, fun k hk => (F.1 20 k rfl).trans (hT.2 k hk)⟩
def CBx (t : Nat) (s : mBs) (g : mG) : Prop := g.1 19 4 = nI s.1 - 1 ∧ (s.1 ≠ 0 → ∀ i, i < t → g.1 22 i = nI (s.2 i))
theorem x_takeB (d : Nat) (g : mG) (x : Int32) : ev none d mm_X10_takeIfBetter 0 [.ref 19, .int x, .null] [] g = if g.1 19 4 < x then some (none, cpd (m_s1 g 19 4 x) 21 22 4) else some (none, g) := by
  rw [b_X10_takeIfBetter_0]
  by_cases c : g.1 19 4 < x
  · rw [m_if_pos c, if_pos c]
    refine ok_eq (ok_loop (E := fun i (_ : Unit) g => ev none d mm_X10_takeIfBetter 16 [.ref 19, .int x, .int (nI i)] [] g) (I := fun i _ g' => g' = cpd (m_s1 g 19 4 x) 21 22 i) (P := 4) ?_ ?_ 0 () (m_s1 g 19 4 x) (by omega) cpd_0.symm)
    · intro i _ g' hi hg next
      subst hg
      show Ok (ev none d mm_X10_takeIfBetter 16 [.ref 19, .int x, .int (nI i)] [] (cpd (m_s1 g 19 4 x) 21 22 i)) _
      rw [b_X10_takeIfBetter_16, m_if_pos (show nI i < 4 from nI_lt (b := 4) hi (by omega)), mi_nI (by omega) (by omega), mi_nI (by omega) (by omega), pk_cl i (hx := rfl), cpd_s (by decide), nI_1]
      exact next () _ rfl
    · intro _ g' hg
      subst hg
      show Ok (ev none d mm_X10_takeIfBetter 16 [.ref 19, .int x, .int (nI 4)] [] (cpd (m_s1 g 19 4 x) 21 22 4)) _
      rw [b_X10_takeIfBetter_16, m_if_neg (show ¬ nI 4 < 4 by decide)]
      exact ok_some ⟨rfl, rfl⟩
  · rw [m_if_neg c, if_neg c]
theorem x_try {W : mW} {n p : Nat} {h : mH} {one t : Nat} (ht : t ≤ 4) (d : Nat) : ∀ r k pl b q s g, k + r = t → pl < 25 → b < 4096 → XR W n p h g → TH W p h one t g → CBx t s g → s.1 < 1000 → (∀ i, i < k → g.1 21 i = nI (q i)) → Ok (ev none (d + 4 + r) mm_X10_tryWays 0 [.ref 19, .int (nI pl), .int (nI b), .int (nI k), .int (nI t), .null, .null, .null] [] g) (fun rr g2 => rr = none ∧ Fr sTW g g2 ∧ CBx t (gb (HH W p h one) (KB p h one) (fun b => wsm h b p) r k pl b q s) g2 ∧ ∀ i, i < k → g2.1 21 i = nI (q i)) := by
  intro r
  induction r with
  | zero =>
    intro k pl b q s g hk hpl hb hX hT hC hs hq
    have e0 : k = t := by omega
    subst e0
    have hw : wsm h b p < 1000 := by
      have := wsm_le hX.1 (B := b) (Nat.le_refl p)
      have := hX.1.2.1
      omega
    rw [show d + 4 + 0 = (d + 3) + 1 from rfl, b_X10_tryWays_0, m_if_neg (nI_nlt (Nat.le_refl _) (by omega)), b_X10_tryWays_11, x_weightOf hX _ _ (by omega), mb_some, mp_some, b_X10_tryWays_20, x_takeB, hC.1]
    show Ok _ (fun rr g2 => rr = none ∧ Fr sTW g g2 ∧ CBx k (if s.1 < wsm h b p + 1 then (wsm h b p + 1, q) else s) g2 ∧ ∀ i, i < k → g2.1 21 i = nI (q i))
    by_cases c : s.1 < wsm h b p + 1
    · rw [if_pos ((bw_lt hs hw).mpr c), if_pos c, mb_some, mp_none, b_X10_tryWays_23]
      refine ok_some ⟨rfl, ?_, ⟨?_, fun _ i hi => ?_⟩, fun i hi => ?_⟩
      · refine ⟨fun c k hc => ?_, fun _ _ _ => rfl⟩
        have h1 : c ≠ 22 := fun e => by rw [e] at hc; exact absurd hc (by simp [sTW])
        rw [cpd_ne h1, s1_r]
        by_cases e : c = 19
        · rw [if_pos e]
          by_cases e2 : k = 4
          · rw [e, e2] at hc; exact absurd hc (by decide)
          · rw [if_neg e2]
        · rw [if_neg e]
      · rw [cpd_ne (by omega), s1_at]
        show nI (wsm h b p) = nI (wsm h b p + 1) - 1
        rw [nI_pred]
      · rw [cpd_at (by omega), s1_ne (by omega), hq i hi]
      · rw [cpd_ne (by omega), s1_ne (by omega), hq i hi]
    · rw [if_neg (fun z => c ((bw_lt hs hw).mp z)), if_neg c, mb_some, mp_none, b_X10_tryWays_23]
      exact ok_some ⟨rfl, fr_refl, hC, hq⟩
  | succ r ih =>
    intro k pl b q s g hk hpl hb hX hT hC hs hq
    have hwt : ∀ b, wsm h b p < 900 := fun b => by
      have := wsm_le hX.1 (B := b) (Nat.le_refl p)
      have := hX.1.2.1
      omega
    rw [show d + 4 + (r + 1) = (d + 4 + r) + 1 from rfl, b_X10_tryWays_0, m_if_pos (nI_lt (by omega) (by omega)), m_if_pos (show nI k < 4 from nI_lt (b := 4) (by omega) (by omega)), show d + 4 + r = (d + 3 + r) + 1 by omega, x_isHeld hT (by omega) _ pl k hpl (by omega), mb_some, mp_some, b_X10_tryWays_30, mi_b2, show (d + 3 + r) + 1 = d + 4 + r by omega]
    -- one way
    have one_ : ∀ (v pl2 : Nat) (x5 : Int32) (v7 : Value) (s1 : mBs) (g1 : mG) (Q : Option Value → mG → Prop), v < 5 → pl2 < 25 → Fr sTW g g1 → CBx t s1 g1 → s1.1 < 1000 → (∀ i, i < k → g1.1 21 i = nI (q i)) → (∀ g2, Fr sTW g g2 → CBx t (gb (HH W p h one) (KB p h one) (fun b => wsm h b p) r (k + 1) pl2 (b ||| KB p h one (k + 1) pl2) (pst q k v) s1) g2 → (∀ i, i < k → g2.1 21 i = nI (q i)) → Ok (ev none (d + 4 + r + 1) mm_X10_tryWays 98 [.ref 19, .int (nI pl), .int (nI b), .int (nI k), .int (nI t), .int x5, .int (nI v), .int (nI pl2)] [] g2) Q) → Ok (ev none (d + 4 + r + 1) mm_X10_tryWays 66 [.ref 19, .int (nI pl), .int (nI b), .int (nI k), .int (nI t), .int x5, .int (nI v), v7] [.int (nI pl2)] g1) Q := by
      intro v pl2 x5 v7 s1 g1 Q hv hpl2 F1 hC1 hs1 hq1 hnx
      have Fw : Fr sTW g (m_s1 g1 21 k (nI v)) := fr_s1 F1 rfl
      have hXw := XR_fr (fr_tw Fw) hX
      have hTw := TH_tw Fw hT
      have kk : ev none (d + 4 + r) mm_X10_keptAt 0 [.ref 19, .int (nI pl2), .int (nI (k + 1))] [] (m_s1 g1 21 k (nI v)) = some (some (.int (nI (KB p h one (k + 1) pl2))), m_s1 g1 21 k (nI v)) := by
        rw [show d + 4 + r = (d + 1 + r) + 3 by omega]
        exact x_keptAt hXw hTw.1 _ pl2 (k + 1)
      rw [b_X10_tryWays_66, mi_nI (by omega) (by omega), pk_cl k (hx := rfl), nI_1, kk, mb_some, mp_some, b_X10_tryWays_89, t_or, nI_1]
      have hb2 : b ||| KB p h one (k + 1) pl2 < 4096 := Nat.or_lt_two_pow (n := 12) hb (KB_lt hX.1 _ _ _)
      have hCw : CBx t s1 (m_s1 g1 21 k (nI v)) := ⟨(s1_ne (by omega)).trans hC1.1, fun z i hi => (s1_ne (by omega)).trans (hC1.2 z i hi)⟩
      have hqw : ∀ i, i < k + 1 → (m_s1 g1 21 k (nI v)).1 21 i = nI (pst q k v i) := by
        intro i hi
        rw [s1_r, if_pos rfl]
        unfold pst
        by_cases e : i = k
        · rw [if_pos e, if_pos e]
        · rw [if_neg e, if_neg e, hq1 i (by omega)]
      refine ok_bnd (ih (k + 1) pl2 _ (pst q k v) s1 _ (by omega) hpl2 hb2 hXw hTw hCw hs1 hqw) ?_
      intro rr g2 ⟨hr, F2, hC2, hq2⟩
      subst hr
      rw [mp_none]
      refine hnx g2 (fr_trans Fw F2) hC2 (fun i hi => ?_)
      rw [hq2 i (by omega)]
      unfold pst
      rw [if_neg (by omega)]
    refine ok_if (fun c => ?_) (fun c => ?_)
    · rw [b_X10_tryWays_38, b_X10_tryWays_43, m_if_pos (by decide), m_if_pos rfl]
      have e : gb (HH W p h one) (KB p h one) (fun b => wsm h b p) (r + 1) k pl b q s = gb (HH W p h one) (KB p h one) (fun b => wsm h b p) r (k + 1) pl (b ||| KB p h one (k + 1) pl) (pst q k 0) s := by
        show @ite _ _ (Classical.propDecidable _) _ _ = _
        rw [if_pos c]
      refine one_ 0 pl 1 .null s g _ (by omega) hpl fr_refl hC hs hq ?_
      intro g2 F2 hC2 hq2
      rw [b_X10_tryWays_98, b_X10_tryWays_43, m_if_neg (show ¬ nI 0 + 1 < 1 by decide), e]
      exact ok_some ⟨rfl, F2, hC2, hq2⟩
    · have e : gb (HH W p h one) (KB p h one) (fun b => wsm h b p) (r + 1) k pl b q s = gbF (fun v => gb (HH W p h one) (KB p h one) (fun b => wsm h b p) r (k + 1) (st pl v) (b ||| KB p h one (k + 1) (st pl v)) (pst q k v)) 5 s := by
        show @ite _ _ (Classical.propDecidable _) _ _ = _
        rw [if_neg c]
      rw [b_X10_tryWays_38, e]
      have g1000 : ∀ v, (gbF (fun v => gb (HH W p h one) (KB p h one) (fun b => wsm h b p) r (k + 1) (st pl v) (b ||| KB p h one (k + 1) (st pl v)) (pst q k v)) v s).1 < 1000 := by
        intro v
        induction v with
        | zero => exact hs
        | succ v ihv => exact gb_1000 hwt _ _ _ _ _ _ ihv
      refine ok_loop (E := fun v (a : Value) g => ev none (d + 4 + r + 1) mm_X10_tryWays 43 [.ref 19, .int (nI pl), .int (nI b), .int (nI k), .int (nI t), .int 5, .int (nI v), a] [] g) (I := fun v a g1 => Fr sTW g g1 ∧ CBx t (gbF (fun v => gb (HH W p h one) (KB p h one) (fun b => wsm h b p) r (k + 1) (st pl v) (b ||| KB p h one (k + 1) (st pl v)) (pst q k v)) v s) g1 ∧ ∀ i, i < k → g1.1 21 i = nI (q i)) (P := 5) ?_ ?_ 0 .null g (by omega) ⟨fr_refl, hC, hq⟩
      · intro v a g1 hv ⟨F1, hC1, hq1⟩ next
        have hst := st_lt pl hpl v hv
        show Ok (ev none (d + 4 + r + 1) mm_X10_tryWays 43 [.ref 19, .int (nI pl), .int (nI b), .int (nI k), .int (nI t), .int 5, .int (nI v), a] [] g1) _
        rw [b_X10_tryWays_43, m_if_pos (show nI v < 5 from nI_lt (b := 5) hv (by omega)), m_if_neg (by decide), v_stepped _ _ pl hpl v hv, mb_some, mp_some]
        refine one_ v (st pl v) 5 a _ g1 _ hv hst F1 hC1 (g1000 v) hq1 ?_
        intro g2 F2 hC2 hq2
        rw [b_X10_tryWays_98, nI_1]
        exact next (.int (nI (st pl v))) g2 ⟨F2, hC2, hq2⟩
      · intro a g1 ⟨F1, hC1, hq1⟩
        show Ok (ev none (d + 4 + r + 1) mm_X10_tryWays 43 [.ref 19, .int (nI pl), .int (nI b), .int (nI k), .int (nI t), .int 5, .int (nI 5), a] [] g1) _
        rw [b_X10_tryWays_43, m_if_neg (show ¬ nI 5 < 5 by decide)]
        exact ok_some ⟨rfl, F1, hC1, hq1⟩
/-- the model's -/
def sGB (c k : Nat) : Bool := s1 c k || c == 79 || c == 80 || (c == 55 && k == 40)
theorem gb_A {c k : Nat} (h : sA c k = false) : sGB c k = false := by
  have h2 : s1 c k = false := s12 (sA2 h)
  unfold sGB
  simp only [Bool.or_eq_false_iff]
  refine ⟨⟨⟨h2, ?_⟩, ?_⟩, ?_⟩
  · by_cases e : c = 79
    · subst e; exact absurd h (by simp [sA])
    · simp [e]
  · by_cases e : c = 80
    · subst e; exact absurd h (by simp [sA])
    · simp [e]
  · by_cases e : c = 55
    · subst e
      by_cases e2 : k = 40
      · subst e2; exact absurd h (by decide)
      · simp [e2]
    · simp [e]
theorem fr_gb {g g' : mG} (F : Fr sGB g g') : Fr sA g g' := fr_mono F (fun _ _ e => gb_A e)
theorem fr_1gb {g g' : mG} (F : Fr s1 g g') : Fr sGB g g' := fr_mono F (fun c k e => by
  unfold sGB at e
  simp only [Bool.or_eq_false_iff] at e
  exact e.1.1.1)
def CBm (t : Nat) (s : mBs) (g : mG) : Prop := g.1 55 40 = nI s.1 - 1 ∧ (s.1 ≠ 0 → ∀ i, i < t → g.1 80 i = nI (s.2 i))
theorem m_takeB (d : Nat) (g : mG) (x1 x2 x3 x5 x6 : Int32) (t : Nat) (ht : t ≤ 4) : ev none d mm_X12_goBest 49 [.ref 55, .int x1, .int x2, .int x3, .int (nI t), .int x5, .int x6, .int 0, .null] [] g = some (none, cpd g 79 80 t) := by
  refine ok_eq (ok_loop (E := fun i (_ : Unit) g => ev none d mm_X12_goBest 49 [.ref 55, .int x1, .int x2, .int x3, .int (nI t), .int x5, .int x6, .int (nI i), .null] [] g) (I := fun i _ g' => g' = cpd g 79 80 i) (P := t) ?_ ?_ 0 () g (by omega) cpd_0.symm)
  · intro i _ g' hi hg next
    subst hg
    show Ok (ev none d mm_X12_goBest 49 [.ref 55, .int x1, .int x2, .int x3, .int (nI t), .int x5, .int x6, .int (nI i), .null] [] (cpd g 79 80 i)) _
    rw [b_X12_goBest_49, m_if_pos (nI_lt hi (by omega)), mi_nI (by omega) (by omega), mi_nI (by omega) (by omega), pk_cl i (hx := rfl), cpd_s (by decide), nI_1]
    exact next () _ rfl
  · intro _ g' hg
    subst hg
    show Ok (ev none d mm_X12_goBest 49 [.ref 55, .int x1, .int x2, .int x3, .int (nI t), .int x5, .int x6, .int (nI t), .null] [] (cpd g 79 80 t)) _
    rw [b_X12_goBest_49, m_if_neg (nI_nlt (Nat.le_refl _) (by omega))]
    exact ok_some ⟨rfl, rfl⟩
theorem m_go {W : mW} {n p : Nat} {h : mH} {one t : Nat} (ht : t ≤ 4) (d : Nat) : ∀ r k pl b q s g, k + r = t → pl < 25 → b < 4096 → MC W n p h g → CBm t s g → s.1 < 1000 → (∀ i, i < k → g.1 79 i = nI (q i)) → Ok (ev none (d + 8 + r) mm_X12_goBest 0 [.ref 55, .int (nI one), .int (nI pl), .int (nI k), .int (nI t), .int (nI b), .null, .null, .null] [] g) (fun rr g2 => rr = none ∧ Fr sGB g g2 ∧ CBm t (gb (HH W p h one) (KB p h one) (fun b => wsm h b p) r k pl (b ||| KB p h one k pl) q s) g2 ∧ ∀ i, i < k → g2.1 79 i = nI (q i)) := by
  intro r
  induction r with
  | zero =>
    intro k pl b q s g hk hpl hb hM hC hs hq
    have e0 : k = t := by omega
    subst e0
    have hb2 : b ||| KB p h one k pl < 4096 := Nat.or_lt_two_pow (n := 12) hb (KB_lt hM.1 _ _ _)
    have hw : wsm h (b ||| KB p h one k pl) p < 1000 := by
      have := wsm_le hM.1 (B := b ||| KB p h one k pl) (Nat.le_refl p)
      have := hM.1.2.1
      omega
    have kp0 : ev none (d + 7) mm_X12_keptAt 0 [.ref 55, .int (nI one), .int (nI pl), .int (dy (h 55 14) (nI k)), .null, .null] [] g = some (some (.int (nI (KB p h one k pl))), g) := m_keptAt hM (d + 5) _ _ _
    rw [show d + 8 + 0 = (d + 7) + 1 from rfl, b_X12_goBest_0, v_dayOn, mb_some, mp_some, b_X12_goBest_10, hM.2.1.2.2.2.1, kp0, mb_some, mp_some, b_X12_goBest_13, m_if_pos rfl, t_or]
    show Ok (m_bnd (ev none (d + 7) mm_X12_weightsOf 0 [.ref 55, .int (nI (b ||| KB p h one k pl)), .null, .null] [] g) _) (fun rr g2 => rr = none ∧ Fr sGB g g2 ∧ CBm k (if s.1 < wsm h (b ||| KB p h one k pl) p + 1 then (wsm h (b ||| KB p h one k pl) p + 1, q) else s) g2 ∧ ∀ i, i < k → g2.1 79 i = nI (q i))
    rw [m_weightsOf hM _ _ (by omega), mb_some, mp_some, b_X12_goBest_28, hC.1, m_weightsOf hM _ _ (by omega), mb_some, mp_some, b_X12_goBest_43]
    by_cases c : s.1 < wsm h (b ||| KB p h one k pl) p + 1
    · rw [m_if_pos ((bw_lt hs hw).mpr c), if_pos c, m_takeB _ _ _ _ _ _ _ k ht]
      refine ok_some ⟨rfl, ?_, ⟨?_, fun _ i hi => ?_⟩, fun i hi => ?_⟩
      · refine ⟨fun c k hc => ?_, fun _ _ _ => rfl⟩
        have h1 : c ≠ 80 := fun e => by rw [e] at hc; exact absurd hc (by simp [sGB])
        rw [cpd_ne h1, s1_r]
        by_cases e : c = 55
        · rw [if_pos e]
          by_cases e2 : k = 40
          · rw [e, e2] at hc; exact absurd hc (by decide)
          · rw [if_neg e2]
        · rw [if_neg e]
      · rw [cpd_ne (by omega), s1_at]
        show nI (wsm h (b ||| KB p h one k pl) p) = nI (wsm h (b ||| KB p h one k pl) p + 1) - 1
        rw [nI_pred]
      · rw [cpd_at hi, s1_ne (by omega), hq i hi]
      · rw [cpd_ne (by omega), s1_ne (by omega), hq i hi]
    · rw [m_if_neg (fun z => c ((bw_lt hs hw).mp z)), if_neg c]
      exact ok_some ⟨rfl, fr_refl, hC, hq⟩
  | succ r ih =>
    intro k pl b q s g hk hpl hb hM hC hs hq
    have hwt : ∀ b, wsm h b p < 900 := fun b => by
      have := wsm_le hM.1 (B := b) (Nat.le_refl p)
      have := hM.1.2.1
      omega
    have hb2 : b ||| KB p h one k pl < 4096 := Nat.or_lt_two_pow (n := 12) hb (KB_lt hM.1 _ _ _)
    have kp0 : ev none (d + 8 + r) mm_X12_keptAt 0 [.ref 55, .int (nI one), .int (nI pl), .int (dy (h 55 14) (nI k)), .null, .null] [] g = some (some (.int (nI (KB p h one k pl))), g) := by
      rw [show d + 8 + r = (d + 6 + r) + 2 by omega]
      exact m_keptAt hM _ _ _ _
    rw [show d + 8 + (r + 1) = (d + 8 + r) + 1 from rfl, b_X12_goBest_0, v_dayOn, mb_some, mp_some, b_X12_goBest_10, hM.2.1.2.2.2.1, kp0, mb_some, mp_some, b_X12_goBest_13, m_if_neg (fun e => by
      have := (nI_eq (by omega) (by omega)).mp e
      omega), t_or, v_dayOn, mb_some, mp_some, b_X12_goBest_85, hM.2.1.2.2.2.1]
    generalize hbb : b ||| KB p h one k pl = bb at hb2 ⊢
    have hld0 : Ok (ev none (d + 8 + r) mm_X12_isHeld 0 [.ref 55, .int (nI one), .int (nI pl), .int (dy (h 55 14) (nI k))] [] g) (fun r g2 => r = some (.int (b2 (HH W p h one k pl))) ∧ Fr s1 g g2) := by
      rw [show d + 8 + r = (d + 2 + r) + 6 by omega]
      exact m_isHeld hM _ _ _ _
    refine ok_bnd hld0 ?_
    intro rr g1 ⟨hr, F1⟩
    subst hr
    rw [mp_some, b_X12_goBest_88]
    have F1' := fr_1gb F1
    have hC1 : CBm t s g1 := ⟨(F1.1 55 40 rfl).trans hC.1, fun z i hi => (F1.1 80 i rfl).trans (hC.2 z i hi)⟩
    have hq1 : ∀ i, i < k → g1.1 79 i = nI (q i) := fun i hi => (F1.1 79 i rfl).trans (hq i hi)
    have one_ : ∀ (v pl2 : Nat) (x7 : Int32) (s1 : mBs) (g2 : mG) (Q : Option Value → mG → Prop), v < 5 → pl2 < 25 → Fr sGB g g2 → CBm t s1 g2 → s1.1 < 1000 → (∀ i, i < k → g2.1 79 i = nI (q i)) → (∀ g3, Fr sGB g g3 → CBm t (gb (HH W p h one) (KB p h one) (fun b => wsm h b p) r (k + 1) pl2 (bb ||| KB p h one (k + 1) pl2) (pst q k v) s1) g3 → (∀ i, i < k → g3.1 79 i = nI (q i)) → Ok (ev none (d + 8 + r + 1) mm_X12_goBest 134 [.ref 55, .int (nI one), .int (nI pl), .int (nI k), .int (nI t), .int (nI b), .int (nI bb), .int x7, .int (nI v)] [] g3) Q) → Ok (ev none (d + 8 + r + 1) mm_X12_goBest 124 [.ref 55, .int (nI one), .int (nI pl), .int (nI k), .int (nI t), .int (nI b), .int (nI bb), .int x7, .int (nI v)] [.int (nI pl2), .int (nI one), .ref 55] (m_s1 g2 79 k (nI v))) Q := by
      intro v pl2 x7 s1 g2 Q hv hpl2 F2 hC2 hs1 hq2 hnx
      have Fw : Fr sGB g (m_s1 g2 79 k (nI v)) := fr_s1 F2 rfl
      have hMw := MC_fr (fr_gb Fw) hM
      rw [b_X12_goBest_124, nI_1]
      have hCw : CBm t s1 (m_s1 g2 79 k (nI v)) := ⟨(s1_ne (by omega)).trans hC2.1, fun z i hi => (s1_ne (by omega)).trans (hC2.2 z i hi)⟩
      have hqw : ∀ i, i < k + 1 → (m_s1 g2 79 k (nI v)).1 79 i = nI (pst q k v i) := by
        intro i hi
        rw [s1_r, if_pos rfl]
        unfold pst
        by_cases e : i = k
        · rw [if_pos e, if_pos e]
        · rw [if_neg e, if_neg e, hq2 i (by omega)]
      refine ok_bnd (ih (k + 1) pl2 bb (pst q k v) s1 _ (by omega) hpl2 hb2 hMw hCw hs1 hqw) ?_
      intro rr g3 ⟨hr, F3, hC3, hq3⟩
      subst hr
      rw [mp_none]
      refine hnx g3 (fr_trans Fw F3) hC3 (fun i hi => ?_)
      rw [hq3 i (by omega)]
      unfold pst
      rw [if_neg (by omega)]
    by_cases c : HH W p h one k pl
    · have e : gb (HH W p h one) (KB p h one) (fun b => wsm h b p) (r + 1) k pl bb q s = gb (HH W p h one) (KB p h one) (fun b => wsm h b p) r (k + 1) pl (bb ||| KB p h one (k + 1) pl) (pst q k 0) s := by
        show @ite _ _ (Classical.propDecidable _) _ _ = _
        rw [if_pos c]
      rw [e, show b2 (HH W p h one k pl) = 1 from b2_t c]
      generalize hS : gb (HH W p h one) (KB p h one) (fun b => wsm h b p) r (k + 1) pl (bb ||| KB p h one (k + 1) pl) (pst q k 0) s = S
      have hmx : mxl (HH W p h one) (KB p h one) (fun b => wsm h b p) r (k + 1) pl (bb ||| KB p h one (k + 1) pl) S.1 := by
        rw [← hS]
        exact gb_mx _ _ _ _ _ _
      have hSl : S.1 < 1000 := by
        rw [← hS]
        exact gb_1000 hwt _ _ _ _ _ _ hs
      refine ok_loop (E := fun v (_ : Unit) g => ev none (d + 8 + r + 1) mm_X12_goBest 93 [.ref 55, .int (nI one), .int (nI pl), .int (nI k), .int (nI t), .int (nI b), .int (nI bb), .int 1, .int (nI v)] [] g) (I := fun v _ g2 => Fr sGB g g2 ∧ CBm t (if v = 0 then s else S) g2 ∧ ∀ i, i < k → g2.1 79 i = nI (q i)) (P := 5) ?_ ?_ 0 () g1 (by omega) ⟨F1', hC1, hq1⟩
      · intro v _ g2 hv ⟨F2, hC2, hq2⟩ next
        show Ok (ev none (d + 8 + r + 1) mm_X12_goBest 93 [.ref 55, .int (nI one), .int (nI pl), .int (nI k), .int (nI t), .int (nI b), .int (nI bb), .int 1, .int (nI v)] [] g2) _
        rw [b_X12_goBest_93, m_if_pos (show nI v < 5 from nI_lt (b := 5) hv (by omega)), mi_nI (by omega) (by omega), pk_cl k (hx := rfl), m_if_neg (by decide)]
        refine one_ v pl 1 (if v = 0 then s else S) g2 _ hv hpl F2 hC2 (by split <;> assumption) hq2 ?_
        intro g3 F3 hC3 hq3
        rw [b_X12_goBest_134, nI_1]
        refine next () g3 ⟨F3, ?_, hq3⟩
        rw [if_neg (by omega)]
        by_cases z : v = 0
        · subst z
          rw [if_pos rfl, hS] at hC3
          exact hC3
        · rw [if_neg z, gb_id _ _ _ _ _ _ hmx] at hC3
          exact hC3
      · intro _ g2 ⟨F2, hC2, hq2⟩
        show Ok (ev none (d + 8 + r + 1) mm_X12_goBest 93 [.ref 55, .int (nI one), .int (nI pl), .int (nI k), .int (nI t), .int (nI b), .int (nI bb), .int 1, .int (nI 5)] [] g2) _
        rw [b_X12_goBest_93, m_if_neg (show ¬ nI 5 < 5 by decide)]
        exact ok_some ⟨rfl, F2, hC2, hq2⟩
    · have e : gb (HH W p h one) (KB p h one) (fun b => wsm h b p) (r + 1) k pl bb q s = gbF (fun v => gb (HH W p h one) (KB p h one) (fun b => wsm h b p) r (k + 1) (st pl v) (bb ||| KB p h one (k + 1) (st pl v)) (pst q k v)) 5 s := by
        show @ite _ _ (Classical.propDecidable _) _ _ = _
        rw [if_neg c]
      rw [e, show b2 (HH W p h one k pl) = 0 from b2_f c]
      have g1000 : ∀ v, (gbF (fun v => gb (HH W p h one) (KB p h one) (fun b => wsm h b p) r (k + 1) (st pl v) (bb ||| KB p h one (k + 1) (st pl v)) (pst q k v)) v s).1 < 1000 := by
        intro v
        induction v with
        | zero => exact hs
        | succ v ihv => exact gb_1000 hwt _ _ _ _ _ _ ihv
      refine ok_loop (E := fun v (_ : Unit) g => ev none (d + 8 + r + 1) mm_X12_goBest 93 [.ref 55, .int (nI one), .int (nI pl), .int (nI k), .int (nI t), .int (nI b), .int (nI bb), .int 0, .int (nI v)] [] g) (I := fun v _ g2 => Fr sGB g g2 ∧ CBm t (gbF (fun v => gb (HH W p h one) (KB p h one) (fun b => wsm h b p) r (k + 1) (st pl v) (bb ||| KB p h one (k + 1) (st pl v)) (pst q k v)) v s) g2 ∧ ∀ i, i < k → g2.1 79 i = nI (q i)) (P := 5) ?_ ?_ 0 () g1 (by omega) ⟨F1', hC1, hq1⟩
      · intro v _ g2 hv ⟨F2, hC2, hq2⟩ next
        have hst := st_lt pl hpl v hv
        have stp : ev none (d + 8 + r) mm_X12_stepped 0 [.int (nI pl), .int (nI v), .null, .null] [] (m_s1 g2 79 k (nI v)) = some (some (.int (nI (st pl v))), m_s1 g2 79 k (nI v)) := by
          rw [show d + 8 + r = (d + 7 + r) + 1 by omega]
          exact v_steppedM _ _ pl hpl v hv
        show Ok (ev none (d + 8 + r + 1) mm_X12_goBest 93 [.ref 55, .int (nI one), .int (nI pl), .int (nI k), .int (nI t), .int (nI b), .int (nI bb), .int 0, .int (nI v)] [] g2) _
        rw [b_X12_goBest_93, m_if_pos (show nI v < 5 from nI_lt (b := 5) hv (by omega)), mi_nI (by omega) (by omega), pk_cl k (hx := rfl), m_if_pos rfl, stp, mb_some, mp_some]
        refine one_ v (st pl v) 0 _ g2 _ hv hst F2 hC2 (g1000 v) hq2 ?_
        intro g3 F3 hC3 hq3
        rw [b_X12_goBest_134, nI_1]
        exact next () g3 ⟨F3, hC3, hq3⟩
      · intro _ g2 ⟨F2, hC2, hq2⟩
        show Ok (ev none (d + 8 + r + 1) mm_X12_goBest 93 [.ref 55, .int (nI one), .int (nI pl), .int (nI k), .int (nI t), .int (nI b), .int (nI bb), .int 0, .int (nI 5)] [] g2) _
        rw [b_X12_goBest_93, m_if_neg (show ¬ nI 5 < 5 by decide)]
        exact ok_some ⟨rfl, F2, hC2, hq2⟩
def boA (k : Int32) (s : mBs) : Int32 := if k < 0 then nI s.1 - 1 else nI (s.2 k.toNatClampNeg)
theorem o_best : op_best Inv 1299 := by
  intro g hI a1 a2 a3
  obtain ⟨n, p, W, hX, hM⟩ := inv_C hI
  have hn : n ≤ 6 := hX.1.1
  have hp : p ≤ 12 := hX.1.2.1
  have e4 : (¬ a2 < 0 ∧ ¬ 4 < a2) ↔ ix 5 a2 := ix_le (n := 4) (by omega)
  have lt_1 : ∀ T, T < 5 → (a3 < nI T ↔ ¬ (nI T - 1 < a3)) := by
    intro T hT
    have e := pk_sub_toInt (a := T) (b := 1) (by omega) (by omega)
    rw [Int32.lt_iff_toInt_lt, Int32.lt_iff_toInt_lt, show (nI T - 1).toInt = (nI T - nI 1).toInt from rfl, e, nI_toInt (by omega)]
    omega
  have hXh : ev none 1299 mm_X11_best 0 [.ref 0, .int a1, .int a2, .int a3] [] g = m_if (ix n a1) (m_if (ix 5 a2) (m_if (¬ a3 < -1 ∧ a3 < a2) (m_bnd (ev none 1298 mm_X10_bestSteps 0 [.ref 19, .int a1, .int a2, .int a3, .null] [] g) (fun r g2 => ev none 1299 mm_X11_best 42 [.ref 0, .int a1, .int a2, .int a3] (m_psh r []) g2)) (some (some (.int (-1)), g))) (some (some (.int (-1)), g))) (some (some (.int (-1)), g)) := by
    rw [b_X11_best_0, v_hasPerson _ g _ n (by omega) hX.2.1.1, mb_some, mp_some, b_X11_best_8, mi_b2, ← mi_c e4]
    by_cases c0 : ix n a1
    · rw [m_if_pos c0, m_if_pos c0]
      by_cases c1 : a2 < 0
      · rw [m_if_pos c1, m_if_neg (fun q => q.1 c1)]
      · rw [m_if_neg c1]
        by_cases c2 : 4 < a2
        · rw [m_if_pos c2, m_if_neg (fun q => q.2 c2)]
        · rw [m_if_neg c2, m_if_pos (show ¬ a2 < 0 ∧ ¬ 4 < a2 from ⟨c1, c2⟩)]
          by_cases c3 : a3 < -1
          · rw [m_if_pos c3, m_if_neg (fun q => q.1 c3)]
          · rw [m_if_neg c3]
            by_cases c4 : a3 < a2
            · rw [m_if_pos c4, m_if_pos (show ¬ a3 < -1 ∧ a3 < a2 from ⟨c3, c4⟩)]
            · rw [m_if_neg c4, m_if_neg (fun q => c4 q.2)]
    · rw [m_if_neg c0, m_if_neg c0]
  have hMh : ∀ g1 : mG, MC W n p g.1 g1 → ev none 1299 mm_X12_best 0 [.ref 55, .int a1, .int a2, .int a3] [] g1 = m_if (ix n a1) (m_if (ix 5 a2) (m_if (¬ a3 < -1 ∧ ¬ a2 - 1 < a3) (ev none 1299 mm_X12_best 25 [.ref 55, .int a1, .int a2, .int a3] [.int 1] g1) (some (some (.int (-1)), g1))) (some (some (.int (-1)), g1))) (some (some (.int (-1)), g1)) := by
    intro g1 hM1
    rw [b_X12_best_0, v_isOne _ _ _ n (by omega) (MC_n hM1), mb_some, mp_some, b_X12_best_5, mi_b2, v_in _ _ a2 4 5 (by omega) rfl, mb_some, mp_some, b_X12_best_14, mi_b2, v_X12_in, mb_some, mp_some]
    by_cases c : ¬ a3 < -1 ∧ ¬ a2 - 1 < a3
    · rw [m_if_pos c, b2_t c]
    · rw [m_if_neg c, b2_f c, b_X12_best_25, m_if_pos rfl]
  rw [hXh]
  by_cases h0 : ix n a1
  · by_cases h1 : ix 5 a2
    · obtain ⟨T, hT, e⟩ := h1
      subst e
      by_cases h2 : ¬ a3 < -1 ∧ a3 < nI T
      · have h2' : ¬ a3 < -1 ∧ ¬ nI T - 1 < a3 := ⟨h2.1, (lt_1 T hT).mp h2.2⟩
        obtain ⟨one, ho, e⟩ := h0
        subst e
        obtain ⟨P0, hP0, hp0⟩ := (hX.1.2.2.2.2.1 one ho).1
        rw [m_if_pos (ix_nI ho), m_if_pos (ix_nI hT), m_if_pos h2]
        have hk : ¬ a3 < 0 → a3.toNatClampNeg < T ∧ nI a3.toNatClampNeg = a3 := by
          intro c
          have : ix T a3 := (ix_lt (by omega)).mp ⟨c, h2.2⟩
          exact ix_cl this (by omega)
        generalize hS : gb (HH W p g.1 one) (KB p g.1 one) (fun b => wsm g.1 b p) T 0 P0 (KB p g.1 one 0 P0) (fun _ => 0) (0, fun _ => 0) = S
        have hS1 : S.1 ≠ 0 := by
          have := mxl_1 _ _ _ _ _ (gb_mx (H := HH W p g.1 one) (B := KB p g.1 one) (wt := fun b => wsm g.1 b p) T 0 P0 (KB p g.1 one 0 P0) (fun _ => 0) (0, fun _ => 0))
          rw [hS] at this
          omega
        refine op_th (boA a3 S) hI ?_ ?_
        · rw [b_X10_bestSteps_0]
          have main : Ok (m_bnd (ev none 1297 mm_X10_thinkOf 0 [.ref 19, .int (nI one), .int (nI T), .null, .null] [] g) (fun r g2 => ev none 1298 mm_X10_bestSteps 6 [.ref 19, .int (nI one), .int (nI T), .int a3, .null] (m_psh r []) g2)) (fun r g2 => r = some (.int (boA a3 S)) ∧ Fr sA g g2) := by
            refine ok_bnd (x_thinkOf hX 1292 one T ho (by omega)) ?_
            intro r g1 ⟨hr, F1, hTh⟩
            subst hr
            have hX1 := XR_fr F1 hX
            have Fw : Fr sTW g1 (m_s1 g1 19 4 (-1)) := fr_s1 fr_refl rfl
            have hXw := XR_fr (fr_tw Fw) hX1
            have hTw := TH_tw Fw hTh
            have kp0 : ev none 1297 mm_X10_keptAt 0 [.ref 19, .int (nI P0), .int 0] [] (m_s1 g1 19 4 (-1)) = some (some (.int (nI (KB p g.1 one 0 P0))), m_s1 g1 19 4 (-1)) := x_keptAt hXw hTw.1 1294 P0 0
            rw [mp_none, b_X10_bestSteps_6, hTh.1, mi_nI (by omega) (by omega), pk_cl one (hx := rfl), (hX1.2.1.2.2.1 one (by omega)).1, hp0, kp0, mb_some, mp_some, b_X10_bestSteps_35]
            have tr := x_try (W := W) (n := n) (p := p) (h := g.1) (one := one) (t := T) (by omega) (1293 - T) T 0 P0 (KB p g.1 one 0 P0) (fun _ => 0) (0, fun _ => 0) (m_s1 g1 19 4 (-1)) (by omega) hP0 (KB_lt hX.1 _ _ _) hXw hTw ⟨s1_at, fun z => absurd rfl z⟩ (by show 0 < 1000; omega) (fun i hi => by omega)
            rw [show 1293 - T + 4 + T = 1297 by omega, hS] at tr
            refine ok_bnd tr ?_
            intro r g2 ⟨hr, F2, hC2, _⟩
            subst hr
            have F := fr_trans F1 (fr_trans (fr_tw Fw) (fr_tw F2))
            rw [mp_none, b_X10_bestSteps_40, hC2.1]
            unfold boA
            refine ok_if (fun c => ok_some ⟨by rw [if_pos c], F⟩) (fun c => ?_)
            have q := hk c
            have c4 : a3 < 4 := by
              rw [← q.2]
              exact nI_lt (b := 4) (by omega) (by omega)
            rw [m_if_pos c4, mi_in (ix_in ⟨_, by omega, q.2.symm⟩ (by omega)), if_neg c, hC2.2 hS1 _ q.1]
            exact ok_some ⟨rfl, F⟩
          refine ok_bnd main ?_
          intro r g2 ⟨hr, F⟩
          subst hr
          rw [mp_some, b_X11_best_42]
          exact ok_some ⟨rfl, F⟩
        · intro g1 F1
          have hM1 := MC_fr F1 hM
          have Fw : Fr sGB g1 (m_s1 g1 55 40 (-1)) := fr_s1 fr_refl rfl
          have hMw := MC_fr (fr_gb Fw) hM1
          rw [hMh g1 hM1, m_if_pos (ix_nI ho), m_if_pos (ix_nI hT), m_if_pos h2', b_X12_best_25, m_if_neg (by decide), mi_nI (by omega) (by omega), pk_cl one (hx := rfl), (hM1.2.1.2.2.2.2 one).1, hp0]
          have tr := m_go (W := W) (n := n) (p := p) (h := g.1) (one := one) (t := T) (by omega) (1290 - T) T 0 P0 0 (fun _ => 0) (0, fun _ => 0) (m_s1 g1 55 40 (-1)) (by omega) hP0 (by omega) hMw ⟨s1_at, fun z => absurd rfl z⟩ (by show 0 < 1000; omega) (fun i hi => by omega)
          rw [show 1290 - T + 8 + T = 1298 by omega, Nat.zero_or, hS] at tr
          refine ok_bnd tr ?_
          intro r g2 ⟨hr, F2, hC2, _⟩
          subst hr
          have F := fr_trans (fr_gb Fw) (fr_gb F2)
          rw [mp_none, b_X12_best_49, hC2.1]
          unfold boA
          refine ok_if (fun c => ok_some ⟨by rw [if_pos c], F⟩) (fun c => ?_)
          have q := hk c
          rw [mi_in (ix_in ⟨_, by omega, q.2.symm⟩ (by omega)), if_neg c, hC2.2 hS1 _ q.1]
          exact ok_some ⟨rfl, F⟩
      · rw [m_if_pos h0, m_if_pos (ix_nI hT), m_if_neg h2]
        exact op_bad (-1) hI rfl (by rw [hMh g hM, m_if_pos h0, m_if_pos (ix_nI hT), m_if_neg (fun q => h2 ⟨q.1, (lt_1 T hT).mpr q.2⟩)])
    · rw [m_if_pos h0, m_if_neg h1]
      exact op_bad (-1) hI rfl (by rw [hMh g hM, m_if_pos h0, m_if_neg h1])
  · rw [m_if_neg h0]
    exact op_bad (-1) hI rfl (by rw [hMh g hM, m_if_neg h0])
