/-! OPERATIONS (18): odds, counted -/
theorem V_64 {n p : Nat} {h : mH} {F F' : Nat → Int32} (hV : V n p (rep h 64 F)) (h1 : ∀ i, i < 12 → ix 2 (F' i)) (h2 : ∀ i, p ≤ i → i < 12 → F' i = 0) : V n p (rep h 64 F') := by
  obtain ⟨v1, v2, v3, v4, v5, v6, v7, v8, v9, v10⟩ := hV
  exact ⟨v1, v2, v3, v4, v5, v6, fun i hi => ⟨h1 i hi, (v7 i hi).2⟩, fun i a b => ⟨h2 i a b, (v8 i a b).2⟩, v9, v10⟩
theorem MC_64 {W : mW} {n p : Nat} {h : mH} {F F' : Nat → Int32} {g g' : mG} (hM : MC W n p (rep h 64 F) g) (h1 : ∀ i, i < 12 → ix 2 (F' i)) (h2 : ∀ i, p ≤ i → i < 12 → F' i = 0) (hg : ∀ c k, c ≠ 64 → g'.1 c k = g.1 c k) (hF : ∀ k, g'.1 64 k = F' k) : MC W n p (rep h 64 F') g' := by
  obtain ⟨hV, ⟨t1, t2, t3, t4, t5⟩, hL⟩ := hM
  refine ⟨V_64 hV h1 h2, ⟨(hg _ _ (by decide)).trans t1, (hg _ _ (by decide)).trans t2, (hg _ _ (by decide)).trans t3, (hg _ _ (by decide)).trans t4, fun k => ?_⟩, ?_⟩
  · obtain ⟨a1, a2, a3, a4, a5, a6, a7, a8, a9, a10⟩ := t5 k
    exact ⟨(hg _ _ (by decide)).trans a1, (hg _ _ (by decide)).trans a2, (hg _ _ (by decide)).trans a3, (hg _ _ (by decide)).trans a4, (hg _ _ (by decide)).trans a5, (hg _ _ (by decide)).trans a6, (hg _ _ (by decide)).trans a7, (hg _ _ (by decide)).trans a8, hF k, (hg _ _ (by decide)).trans a10⟩
  · unfold LM
    rw [hg 55 35 (by decide)]
    rcases hL with h3 | ⟨h3, h4⟩
    · exact Or.inl h3
    · exact Or.inr ⟨h3, ML_fr (fun j hj => ⟨hg _ _ (by decide), hg _ _ (by decide)⟩) (hg _ _ (by decide)) (fun j hj => ⟨hg _ _ (by decide), hg _ _ (by decide)⟩) h4⟩
def prj (f : Nat → Nat) : Nat → Nat → Nat
  | 0, _ => 1
  | j + 1, k => f k * prj f j (k + 1)
noncomputable def fP (W : mW) (p : Nat) (h : mH) (one q : Nat) : Nat := if (TT p h one).testBit q = true then av W p h one q else 1
noncomputable def fA (p : Nat) (h : mH) (one q : Nat) : Nat := if (TT p h one).testBit q = true then 2 else 1
def OKk (W : mW) (p : Nat) (h : mH) (one k : Nat) (F : Nat → Int32) : Prop := ∀ q, q < k → (TT p h one).testBit q = true → ¬ GR W p h one q (F q)
theorem hld_64 {W : mW} {n p : Nat} {h : mH} (hV : V n p h) {one : Nat} (h1 : one < n) (F : Nat → Int32) : hld W p (rep h 64 F) (nI one) (h 56 one) (h 55 14) ↔ ¬ OKk W p h one p F := by
  have hn := hV.1
  have hp := hV.2.1
  have key : ∀ q, q < p → (TT p h one).testBit q = true → hd W p (rep h 64 F) (h 55 14) q = hdG W h (h 55 14) q 0 (nI (pop (TT p h one)) - 1) (F q) := by
    intro q hq hb
    have ot : oth p (rep h 64 F) (h 55 14) q = pop (TT p h one) - 1 := by
      obtain ⟨_, e58, e60, ho⟩ := TT_bit.mp hb
      have q1 := cnt_less (p := p) (q := q) (T := fun i => (TT p h one).testBit i = true) (S := fun _ => False) hq hb (fun z => z) (fun _ _ z => z.elim)
      have q2 : cnt p (fun _ => False) = 0 := cnt_0.mpr (fun _ _ z => z)
      have q3 : oth p (rep h 64 F) (h 55 14) q = cnt p (fun e => e ≠ q ∧ (TT p h one).testBit e = true ∧ ¬ False) := by
        refine cnt_c (fun e he => ?_)
        show (e ≠ q ∧ h 58 e = h 58 q ∧ h 60 e = h 60 q ∧ onP h (h 55 14) e) ↔ _
        rw [e58, e60, TT_bit]
        exact ⟨fun ⟨z1, z2, z3, z4⟩ => ⟨z1, ⟨he, z2, z3, z4⟩, fun z => z⟩, fun ⟨z1, ⟨_, z2, z3, z4⟩, _⟩ => ⟨z1, z2, z3, z4⟩⟩
      rw [pop_TT hV, q3]
      omega
    have hpos : 1 ≤ pop (TT p h one) := by
      have q1 := cnt_less (p := p) (q := q) (T := fun i => (TT p h one).testBit i = true) (S := fun _ => False) hq hb (fun z => z) (fun _ _ z => z.elim)
      rw [pop_TT hV]
      omega
    have hpl := pop_12 (TT_lt hV one).1
    unfold hd hdG
    rw [ot, show nI (pop (TT p h one)) - 1 = nI (pop (TT p h one) - 1) from pk_sub (b := 1) (by omega), Int32.sub_zero]
    rfl
  constructor
  · intro ⟨q, hq, a, b, c, e⟩ hok
    have hb : (TT p h one).testBit q = true := TT_bit.mpr ⟨hq, a, b, c⟩
    refine hok q hq hb ?_
    unfold GR
    rw [← key q hq hb]
    exact e
  · intro hno
    have : ∃ q, q < p ∧ (TT p h one).testBit q = true ∧ GR W p h one q (F q) := by
      refine Classical.byContradiction (fun z => hno (fun q hq hb hg => z ⟨q, hq, hb, hg⟩))
    obtain ⟨q, hq, hb, hg⟩ := this
    obtain ⟨_, a, b, c⟩ := TT_bit.mp hb
    refine ⟨q, hq, a, b, c, ?_⟩
    unfold GR at hg
    rw [← key q hq hb] at hg
    exact hg
def sO (c k : Nat) : Bool := s1 c k || (c == 55 && (k == 45 || k == 46))
theorem fr_O {g g' : mG} (F : Fr sO g g') : Fr sA g g' := fr_mono F (fun c k e => by
  unfold sA s2 at e
  unfold sO
  simp only [Bool.or_eq_false_iff, Bool.and_eq_false_iff, beq_eq_false_iff_ne, ne_eq, decide_eq_false_iff_not] at e ⊢
  refine ⟨e.1.1.1.1.1.1.1.1.1.1.1, ?_⟩
  omega)
theorem fr_1O {g g' : mG} (F : Fr s1 g g') : Fr sO g g' := fr_mono F (fun c k e => by
  unfold sO at e
  exact (Bool.or_eq_false_iff.mp e).1)
noncomputable def wy (W : mW) (p : Nat) (h : mH) (one j k : Nat) (F : Nat → Int32) : Nat := @ite _ (OKk W p h one k F) (Classical.propDecidable _) (prj (fP W p h one) j k) 0
theorem OKk_f {W : mW} {p : Nat} {h : mH} {one k : Nat} {F : Nat → Int32} (c : ¬ (TT p h one).testBit k = true) : OKk W p h one (k + 1) F ↔ OKk W p h one k F := by
  refine ⟨fun z q hq => z q (by omega), fun z q hq hb => z q ?_ hb⟩
  have : q ≠ k := fun e => by subst e; exact c hb
  omega
theorem OKk_t {W : mW} {p : Nat} {h : mH} {one k : Nat} {F F' : Nat → Int32} (c : (TT p h one).testBit k = true) (hF : ∀ q, q < k → F' q = F q) : OKk W p h one (k + 1) F' ↔ (OKk W p h one k F ∧ ¬ GR W p h one k (F' k)) := by
  constructor
  · intro z
    exact ⟨fun q hq hb => by rw [← hF q hq]; exact z q (by omega) hb, z k (by omega) c⟩
  · intro ⟨z1, z2⟩ q hq hb
    by_cases e : q = k
    · subst e; exact z2
    · rw [hF q (by omega)]; exact z1 q (by omega) hb
theorem wy_t {W : mW} {p : Nat} {h : mH} {one j k : Nat} {F F0 F1 : Nat → Int32} (c : (TT p h one).testBit k = true) (h0 : ∀ q, q < k → F0 q = F q) (h1 : ∀ q, q < k → F1 q = F q) (e0 : F0 k = 0) (e1 : F1 k = 1) : wy W p h one j (k + 1) F0 + wy W p h one j (k + 1) F1 = wy W p h one (j + 1) k F := by
  unfold wy
  have hp : prj (fP W p h one) (j + 1) k = av W p h one k * prj (fP W p h one) j (k + 1) := by
    show fP W p h one k * _ = _
    unfold fP
    rw [if_pos c]
  rw [hp, propext (OKk_t c h0), propext (OKk_t c h1), e0, e1]
  unfold av
  by_cases z : OKk W p h one k F
  · by_cases a : GR W p h one k 0
    · by_cases b : GR W p h one k 1
      · rw [if_neg (fun y => y.2 a), if_neg (fun y => y.2 b), if_pos z, if_pos a, if_pos b]; omega
      · rw [if_neg (fun y => y.2 a), if_pos ⟨z, b⟩, if_pos z, if_pos a, if_neg b]; omega
    · by_cases b : GR W p h one k 1
      · rw [if_pos ⟨z, a⟩, if_neg (fun y => y.2 b), if_pos z, if_neg a, if_pos b]; omega
      · rw [if_pos ⟨z, a⟩, if_pos ⟨z, b⟩, if_pos z, if_neg a, if_neg b]; omega
  · rw [if_neg (fun y => z y.1), if_neg (fun y => z y.1), if_neg z]
theorem m_forgot {W : mW} {n p : Nat} {h : mH} (hV : V n p h) {one : Nat} (h1 : one < n) : ∀ j k g d, k + j = p → MC W n p (rep h 64 (g.1 64)) g → Ok (ev none (d + j + 7) mm_X12_goForgot 0 [.ref 55, .int (nI one), .int (nI (TT p h one)), .int (nI k), .null] [] g) (fun r g2 => r = none ∧ Fr sO g g2 ∧ g2.2 55 46 = g.2 55 46 + lO (prj (fA p h one) j k) ∧ g2.2 55 45 = g.2 55 45 + lO (wy W p h one j k (g.1 64))) := by
  have hn := hV.1
  have hp := hV.2.1
  have hT := TT_lt hV one
  intro j
  induction j with
  | zero =>
    intro k g d hk hM
    have ek : k = p := by omega
    subst ek
    have F0 : Fr sO g (m_s2 g 55 46 (g.2 55 46 + 1)) := fr_s2 fr_refl rfl
    have hM0 := MC_fr (fr_O F0) hM
    rw [show d + 0 + 7 = (d + 6) + 1 from rfl, b_X12_goForgot_0, MC_p hM, m_if_pos rfl, mi_nI (by omega) (by omega), pk_cl one (hx := rfl), (hM.2.1.2.2.2.2 one).1, hM.2.1.2.2.2.1]
    refine ok_bnd (m_isHeld hM0 d _ _ _) ?_
    intro r g2 ⟨hr, F2⟩
    subst hr
    have e46 : g2.2 55 46 = g.2 55 46 + lO (prj (fA k h one) 0 k) := by
      rw [F2.2 55 46 rfl, s2_r, if_pos rfl, if_pos rfl]
      rfl
    have e45 : g2.2 55 45 = g.2 55 45 := by
      rw [F2.2 55 45 rfl, s2_r, if_pos rfl, if_neg (by decide)]
    have hh : hld W k (rep h 64 (g.1 64)) (nI one) (rep h 64 (g.1 64) 56 one) (rep h 64 (g.1 64) 55 14) ↔ ¬ OKk W k h one k (g.1 64) := hld_64 hV h1 (g.1 64)
    rw [mp_some, b_X12_goForgot_33, b2_c hh, mi_b2]
    refine ok_if (fun c => ?_) (fun c => ?_)
    · refine ok_some ⟨rfl, fr_trans F0 (fr_1O F2), e46, ?_⟩
      unfold wy
      rw [e45, if_neg c]
      exact (Int64.add_zero _).symm
    · refine ok_some ⟨rfl, fr_s2 (fr_trans F0 (fr_1O F2)) rfl, ?_, ?_⟩
      · rw [s2_r, if_pos rfl, if_neg (by decide)]
        exact e46
      · unfold wy
        rw [s2_r, if_pos rfl, if_pos rfl, e45, if_pos (Classical.not_not.mp c)]
        rfl
  | succ j ih =>
    intro k g d hk hM
    rw [show d + (j + 1) + 7 = (d + j + 7) + 1 by omega, b_X12_goForgot_0, MC_p hM, m_if_neg (fun e => absurd ((nI_eq (by omega) (by omega)).mp e) (by omega)), v_has _ _ _ _ (by omega) (by omega), mb_some, mp_some, b_X12_goForgot_52, mi_b2]
    refine ok_if (fun c => ?_) (fun c => ?_)
    · have hix : ∀ i, i < 12 → ix 2 (g.1 64 i) := fun i hi => (hM.1.2.2.2.2.2.2.1 i hi).1
      have hz : ∀ i, p ≤ i → i < 12 → g.1 64 i = 0 := fun i a b => (hM.1.2.2.2.2.2.2.2.1 i a b).1
      have wr : ∀ (g' : mG) (v : Int32), ix 2 v → (∀ c' k', sO c' k' = false → c' ≠ 64 → g'.1 c' k' = g.1 c' k') → (∀ q, q ≠ k → g'.1 64 q = g.1 64 q) → MC W n p (rep h 64 (g'.1 64)) g' → MC W n p (rep h 64 ((m_s1 g' 64 k v).1 64)) (m_s1 g' 64 k v) := by
        intro g' v hv _ hq hM'
        refine MC_64 hM' (fun i hi => ?_) (fun i a b => ?_) (fun c' k' hc => s1_ne hc) (fun _ => rfl)
        · by_cases e : i = k
          · subst e; rw [s1_at]; exact hv
          · rw [s1_same e, hq i e]; exact hix i hi
        · rw [s1_same (by omega), hq i (by omega)]; exact hz i a b
      rw [mi_nI (i := k) (by omega) (by omega), mi_nI (i := k) (by omega) (by omega), pk_cl k (hx := rfl), nI_1]
      have hM0 : MC W n p (rep h 64 ((m_s1 g 64 k 0).1 64)) (m_s1 g 64 k 0) := wr g 0 ⟨0, by omega, rfl⟩ (fun _ _ _ _ => rfl) (fun _ _ => rfl) hM
      refine ok_bnd (ih (k + 1) (m_s1 g 64 k 0) d (by omega) hM0) ?_
      intro r g2 ⟨hr, F2, e46, e45⟩
      subst hr
      have r64 : g2.1 64 = (m_s1 g 64 k 0).1 64 := funext fun q => F2.1 64 q rfl
      have hM2 : MC W n p (rep h 64 (g2.1 64)) g2 := by rw [r64]; exact MC_fr (fr_O F2) hM0
      rw [mp_none, b_X12_goForgot_89, mi_nI (i := k) (by omega) (by omega), pk_cl k (hx := rfl), nI_1]
      have hM1 : MC W n p (rep h 64 ((m_s1 g2 64 k 1).1 64)) (m_s1 g2 64 k 1) := wr g2 1 ⟨1, by omega, rfl⟩ (fun c' k' a b => by rw [F2.1 c' k' a, s1_ne b]) (fun q hq => by rw [r64, s1_same hq]) hM2
      refine ok_bnd (ih (k + 1) (m_s1 g2 64 k 1) d (by omega) hM1) ?_
      intro r g3 ⟨hr, F3, f46, f45⟩
      subst hr
      have r64' : ∀ q, g3.1 64 q = (m_s1 g2 64 k 1).1 64 q := fun q => F3.1 64 q rfl
      rw [mp_none, b_X12_goForgot_105, mi_nI (i := k) (by omega) (by omega), pk_cl k (hx := rfl)]
      have t46 : g3.2 55 46 = g.2 55 46 + lO (prj (fA p h one) (j + 1) k) := by
        rw [f46, show (m_s1 g2 64 k 1).2 55 46 = g2.2 55 46 from rfl, e46, show (m_s1 g 64 k 0).2 55 46 = g.2 55 46 from rfl, Int64.add_assoc, lO_add]
        congr 2
        show _ = fA p h one k * _
        unfold fA
        rw [if_pos c]
        omega
      have t45 : g3.2 55 45 = g.2 55 45 + lO (wy W p h one (j + 1) k (g.1 64)) := by
        rw [f45, show (m_s1 g2 64 k 1).2 55 45 = g2.2 55 45 from rfl, e45, show (m_s1 g 64 k 0).2 55 45 = g.2 55 45 from rfl, Int64.add_assoc, lO_add]
        rw [wy_t c (F := g.1 64) (fun q hq => s1_same (by omega)) (fun q hq => by rw [s1_same (by omega), r64, s1_same (by omega)]) s1_at s1_at]
      refine ok_some ⟨rfl, ⟨fun c' k' hc => ?_, fun c' k' hc => ?_⟩, t46, t45⟩
      · by_cases e : c' = 64
        · subst e
          by_cases e2 : k' = k
          · subst e2; rw [s1_at]
          · rw [s1_same e2, r64', s1_same e2, r64, s1_same e2]
        · rw [s1_ne e, F3.1 c' k' hc, s1_ne e, F2.1 c' k' hc, s1_ne e]
      · show g3.2 c' k' = _
        rw [F3.2 c' k' hc]
        show g2.2 c' k' = _
        rw [F2.2 c' k' hc]
        rfl
    · rw [nI_1]
      refine ok_bnd (ih (k + 1) g d (by omega) hM) ?_
      intro r g2 ⟨hr, F2, e46, e45⟩
      subst hr
      rw [mp_none, b_X12_goForgot_64]
      refine ok_some ⟨rfl, F2, ?_, ?_⟩
      · rw [e46]
        congr 2
        show _ = fA p h one k * _
        unfold fA
        rw [if_neg c]
        omega
      · rw [e45]
        congr 2
        unfold wy
        rw [propext (OKk_f c)]
        have : prj (fP W p h one) (j + 1) k = prj (fP W p h one) j (k + 1) := by
          show fP W p h one k * _ = _
          unfold fP
          rw [if_neg c]
          omega
        rw [this]
