/-! OPERATIONS (20): by turns, the game and the model -/
def tfp (h : mH) (child q : Nat) : Prop := h 59 q = nI child ∧ h 64 q = 0
/-- the least t of them forgotten -/
noncomputable def FT (p : Nat) (h : mH) (child t : Nat) : Nat → Int32 := fun k => @ite _ (k < p ∧ tfp h child k ∧ cnt k (tfp h child) < t) (Classical.propDecidable _) 1 (h 64 k)
theorem FT_0 {p : Nat} {h : mH} {child : Nat} : FT p h child 0 = h 64 := funext fun k => if_neg (fun z => absurd z.2.2 (Nat.not_lt_zero _))
theorem FT_ix {n p : Nat} {h : mH} (hV : V n p h) (child t : Nat) : ∀ i, i < 12 → ix 2 (FT p h child t i) := by
  intro i hi
  unfold FT
  split
  · exact ⟨1, by omega, rfl⟩
  · exact (hV.2.2.2.2.2.2.1 i hi).1
theorem FT_z {n p : Nat} {h : mH} (hV : V n p h) (child t : Nat) : ∀ i, p ≤ i → i < 12 → FT p h child t i = 0 := by
  intro i h1 h2
  unfold FT
  rw [if_neg (fun z => by omega)]
  exact (hV.2.2.2.2.2.2.2.1 i h1 h2).1
theorem FT_at {p : Nat} {h : mH} {child t q : Nat} (hq : q < p) (hc : h 59 q = nI child) : FT p h child t q = 0 ↔ (tfp h child q ∧ t ≤ cnt q (tfp h child)) := by
  unfold FT
  by_cases c : q < p ∧ tfp h child q ∧ cnt q (tfp h child) < t
  · rw [if_pos c]
    exact ⟨fun z => absurd z (by decide), fun z => absurd c.2.2 (by omega)⟩
  · rw [if_neg c]
    constructor
    · intro z
      exact ⟨⟨hc, z⟩, Nat.le_of_not_lt (fun y => c ⟨hq, ⟨hc, z⟩, y⟩)⟩
    · intro z
      exact z.1.2
theorem FT_s {p : Nat} {h : mH} {child t q : Nat} (hq : q < p) (hc : tfp h child q) (e : cnt q (tfp h child) = t) (k : Nat) : FT p h child (t + 1) k = if k = q then 1 else FT p h child t k := by
  unfold FT
  by_cases c : k = q
  · subst c
    rw [if_pos ⟨hq, hc, by omega⟩, if_pos rfl]
  · rw [if_neg c]
    by_cases z : k < p ∧ tfp h child k ∧ cnt k (tfp h child) < t
    · rw [if_pos z, if_pos ⟨z.1, z.2.1, by omega⟩]
    · rw [if_neg z, if_neg]
      intro y
      refine z ⟨y.1, y.2.1, ?_⟩
      have : cnt k (tfp h child) ≠ t := by
        intro e2
        rcases Nat.lt_trichotomy k q with w | w | w
        · have a1 : cnt (k + 1) (tfp h child) = cnt k (tfp h child) + 1 := cnt_t y.2.1
          have a2 := cnt_mono (c := tfp h child) (show k + 1 ≤ q by omega)
          omega
        · exact c w
        · have a1 : cnt (q + 1) (tfp h child) = cnt q (tfp h child) + 1 := cnt_t hc
          have a2 := cnt_mono (c := tfp h child) (show q + 1 ≤ k by omega)
          omega
      omega
/-- the least of the step and the ways -/
def mnF (c : Nat → Nat) (w : Nat) : Nat → Nat
  | 0 => c w
  | k + 1 => if c (st w k) < mnF c w k then c (st w k) else mnF c w k
noncomputable def gV (H : Nat → Nat → Nat → Prop) (goal N : Nat) : Nat → Bool → Nat → Nat → Nat → Nat
  | 0, _, w, _, _ => far w goal
  | l + 1, true, w, d, t => @ite _ (H t d w) (Classical.propDecidable _) (gV H goal N l false w (d + 1) t) (mnF (fun w' => gV H goal N l false w' (d + 1) t) w 4)
  | l + 1, false, w, d, t => if t < N then (if gV H goal N l true w d t < gV H goal N l true w d (t + 1) then gV H goal N l true w d (t + 1) else gV H goal N l true w d t) else gV H goal N l true w d t
theorem mnF_le {c : Nat → Nat} {w B : Nat} (hw : w < 25) (h : ∀ w', w' < 25 → c w' ≤ B) : ∀ k, k ≤ 5 → mnF c w k ≤ B := by
  intro k
  induction k with
  | zero => intro _; exact h w hw
  | succ k ih =>
    intro hk
    show (if c (st w k) < mnF c w k then c (st w k) else mnF c w k) ≤ B
    split
    · exact h _ (st_lt w hw k (by omega))
    · exact ih (by omega)
theorem gV_le {H : Nat → Nat → Nat → Prop} {goal N : Nat} (hg : goal < 25) : ∀ l m w d t, w < 25 → gV H goal N l m w d t ≤ 8 := by
  intro l
  induction l with
  | zero => intro m w d t hw; exact far_le w goal hw hg
  | succ l ih =>
    intro m w d t hw
    cases m with
    | true =>
      unfold gV
      split
      · exact ih _ _ _ _ hw
      · exact mnF_le hw (fun w' hw' => ih _ _ _ _ hw') 4 (by omega)
    | false =>
      unfold gV
      split
      · split
        · exact ih _ _ _ _ hw
        · exact ih _ _ _ _ hw
      · exact ih _ _ _ _ hw
def HT (W : mW) (p : Nat) (h : mH) (man child t d w : Nat) : Prop := hld W p (rep h 64 (FT p h child t)) (nI man) (nI w) (dy (h 55 14) (nI d))
theorem m_leastF {W : mW} {n p : Nat} {h : mH} (hV : V n p h) {child t : Nat} {g : mG} (hM : MC W n p (rep h 64 (FT p h child t)) g) (e48 : g.1 55 48 = nI child) (d : Nat) : (t < cnt p (tfp h child) → ∃ q, q < p ∧ tfp h child q ∧ cnt q (tfp h child) = t ∧ ev none d mm_X12_leastToForget 0 [.ref 55, .null] [] g = some (some (.int (nI q)), g)) ∧ (¬ t < cnt p (tfp h child) → ev none d mm_X12_leastToForget 0 [.ref 55, .null] [] g = some (some (.int (-2)), g)) := by
  have hp := hV.2.1
  have run : ∀ k, k ≤ p → (∀ q, q < k → ¬ (tfp h child q ∧ t ≤ cnt q (tfp h child))) → ev none d mm_X12_leastToForget 2 [.ref 55, .int 0] [] g = ev none d mm_X12_leastToForget 2 [.ref 55, .int (nI k)] [] g := by
    intro k
    induction k with
    | zero => intro _ _; rfl
    | succ k ih =>
      intro hk hno
      rw [ih (by omega) (fun q hq => hno q (by omega)), b_X12_leastToForget_2, MC_p hM, m_if_pos (nI_lt (by omega) (by omega)), mi_nI (i := k) (by omega) (by omega), mi_nI (i := k) (by omega) (by omega), pk_cl k (hx := rfl), e48, (hM.2.1.2.2.2.2 k).2.2.2.1, (hM.2.1.2.2.2.2 k).2.2.2.2.2.2.2.2.1]
      by_cases c : h 59 k = nI child
      · rw [m_if_pos (show rep h 64 (FT p h child t) 59 k = nI child from c), m_if_neg (show ¬ rep h 64 (FT p h child t) 64 k = 0 from fun z => hno k (by omega) ((FT_at (by omega) c).mp z)), b_X12_leastToForget_34, nI_1]
      · rw [m_if_neg (show ¬ rep h 64 (FT p h child t) 59 k = nI child from c), b_X12_leastToForget_34, nI_1]
  constructor
  · intro ht
    obtain ⟨q, q1, q2, q3⟩ := cnt_sur p t ht
    refine ⟨q, q1, q2, q3, ?_⟩
    rw [b_X12_leastToForget_0, run q (by omega) (fun q' hq' z => ?_), b_X12_leastToForget_2, MC_p hM, m_if_pos (nI_lt (by omega) (by omega)), mi_nI (i := q) (by omega) (by omega), mi_nI (i := q) (by omega) (by omega), pk_cl q (hx := rfl), e48, (hM.2.1.2.2.2.2 q).2.2.2.1, (hM.2.1.2.2.2.2 q).2.2.2.2.2.2.2.2.1, m_if_pos (show rep h 64 (FT p h child t) 59 q = nI child from q2.1), m_if_pos (show rep h 64 (FT p h child t) 64 q = 0 from (FT_at q1 q2.1).mpr ⟨q2, by omega⟩)]
    have a1 : cnt (q' + 1) (tfp h child) = cnt q' (tfp h child) + 1 := cnt_t z.1
    have a2 := cnt_mono (c := tfp h child) (show q' + 1 ≤ q by omega)
    omega
  · intro ht
    rw [b_X12_leastToForget_0, run p (Nat.le_refl _) (fun q' hq' z => ?_), b_X12_leastToForget_2, MC_p hM, m_if_neg (nI_nlt (Nat.le_refl _) (by omega))]
    have a1 : cnt (q' + 1) (tfp h child) = cnt q' (tfp h child) + 1 := cnt_t z.1
    have a2 := cnt_mono (c := tfp h child) (show q' + 1 ≤ p by omega)
    omega
