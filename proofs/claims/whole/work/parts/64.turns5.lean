/-! OPERATIONS (24): by turns -/
def fsF (c : Nat → Nat) (w : Nat) : Nat → Nat
  | 0 => 4
  | k + 1 => if c (st w k) < mnF c w k then k else fsF c w k
theorem mnF_min {c : Nat → Nat} {w : Nat} : ∀ k, mnF c w k ≤ c w ∧ ∀ j, j < k → mnF c w k ≤ c (st w j) := by
  intro k
  induction k with
  | zero => exact ⟨Nat.le_refl _, fun j hj => by omega⟩
  | succ k ih =>
    have e : mnF c w (k + 1) = if c (st w k) < mnF c w k then c (st w k) else mnF c w k := rfl
    rw [e]
    have i1 := ih.1
    constructor
    · split <;> omega
    · intro j hj
      by_cases z : j = k
      · subst z; split <;> omega
      · have := ih.2 j (by omega)
        split <;> omega
theorem fsF_spec {c : Nat → Nat} {w : Nat} : ∀ k, k ≤ 4 → (fsF c w k = 4 ∧ mnF c w k = c w) ∨ (fsF c w k < k ∧ c (st w (fsF c w k)) = mnF c w k ∧ mnF c w k < c w ∧ ∀ j, j < fsF c w k → c (st w j) ≠ mnF c w k) := by
  intro k
  induction k with
  | zero => intro _; exact Or.inl ⟨rfl, rfl⟩
  | succ k ih =>
    intro hk
    have hm := mnF_min (c := c) (w := w) k
    by_cases z : c (st w k) < mnF c w k
    · have e1 : fsF c w (k + 1) = k := if_pos z
      have e2 : mnF c w (k + 1) = c (st w k) := if_pos z
      rw [e1, e2]
      exact Or.inr ⟨by omega, rfl, by omega, fun j hj => by have := hm.2 j hj; omega⟩
    · have e1 : fsF c w (k + 1) = fsF c w k := if_neg z
      have e2 : mnF c w (k + 1) = mnF c w k := if_neg z
      rw [e1, e2]
      rcases ih (by omega) with q | ⟨q1, q2⟩
      · exact Or.inl q
      · exact Or.inr ⟨by omega, q2⟩
/-- what is answered -/
noncomputable def tA (W : mW) (p : Nat) (h : mH) (man child goal l w : Nat) (x5 : Int32) : Int32 := if x5 = 0 then nI (gV (HT W p h man child) goal (cnt p (tfp h child)) (l + 1) true w 0 0) else nI (@ite _ (HT W p h man child 0 0 w) (Classical.propDecidable _) 4 (fsF (fun w' => gV (HT W p h man child) goal (cnt p (tfp h child)) l false w' 1 0) w 4))
theorem x_withChild {W : mW} {n p : Nat} {h : mH} {g : mG} (hX : XR W n p h g) (d : Nat) (man child goal l w : Nat) (x5 : Int32) (hm : man < n) (hc : child < n) (hgo : goal < 25) (hl : l ≤ 4) (hw : w < 25) (ew : h 56 man = nI w) : Ok (ev none (d + 30) mm_X10_withChild 0 [.ref 19, .int (nI man), .int (nI child), .int (nI goal), .int (nI (l + 1)), .int x5, .null, .null, .null, .null, .null, .null] [] g) (fun r g2 => r = some (.int (tA W p h man child goal l w x5)) ∧ Fr sA g g2) := by
  have hn : n ≤ 6 := hX.1.1
  have F0 : Fr sA g (m_s1 g 19 6 (nI goal)) := fr_s1 fr_refl rfl
  have e1 : nI (l + 1) - 1 = nI l := pk_sub (a := l + 1) (b := 1) (by omega)
  rw [b_X10_withChild_0]
  refine ok_bnd (x_thinkTurns (XR_fr F0 hX) (d + 24) man child goal hc s1_at) ?_
  intro r g1 ⟨hr, hT, F1⟩
  subst hr
  have F := fr_trans F0 F1
  have hX1 := XR_fr F hX
  have gm := (x_game hgo hT l (by omega)).2
  have lc : ∀ w', w' < 25 → gV (HT W p h man child) goal (cnt p (tfp h child)) l false w' 1 0 ≤ 8 := fun w' hw' => gV_le hgo _ _ _ _ _ hw'
  rw [mp_none, b_X10_withChild_11, mi_nI (by omega) (by omega), pk_cl man (hx := rfl), (hX1.2.1.2.2.1 man (by omega)).1, ew, e1, show (1 : Int32) = nI 1 from rfl, show (0 : Int32) = nI 0 from rfl, gm w 1 0 _ hw (by omega) (by omega) (by omega) (Nat.zero_le _), mb_some, mp_some, b_X10_withChild_37, show (0 : Int32) = nI (3 * 0 + 0) from rfl, x_heldT hT _ w 0 0 hw (Nat.zero_le _) (by omega) (by omega), mb_some, mp_some, b_X10_withChild_46, mi_b2]
  by_cases c : HT W p h man child 0 0 w
  · rw [m_if_pos c, b_X10_withChild_54, b_X10_withChild_59, m_if_neg (by decide)]
    refine ok_if (fun z => ok_some ⟨?_, F⟩) (fun z => ok_some ⟨?_, F⟩)
    · unfold tA
      rw [if_pos z, show gV (HT W p h man child) goal (cnt p (tfp h child)) (l + 1) true w 0 0 = _ from if_pos c]
    · unfold tA
      rw [if_neg z, if_pos c]
      rfl
  · rw [m_if_neg c, b_X10_withChild_54]
    refine ok_loop (E := fun k (v : Value) g => ev none (d + 30) mm_X10_withChild 59 [.ref 19, .int (nI man), .int (nI child), .int (nI goal), .int (nI (l + 1)), .int x5, .int (nI w), .int (nI (fsF (fun w' => gV (HT W p h man child) goal (cnt p (tfp h child)) l false w' 1 0) w k)), .int (nI (mnF (fun w' => gV (HT W p h man child) goal (cnt p (tfp h child)) l false w' 1 0) w k)), .int 4, .int (nI k), v] [] g) (I := fun k _ g3 => g3 = g1) (P := 4) ?_ ?_ 0 .null g1 (by omega) rfl
    · intro k v g3 hk hg next
      subst hg
      have hst := st_lt w hw k (by omega)
      have q1 := lc _ hst
      have q2 := mnF_le (c := fun w' => gV (HT W p h man child) goal (cnt p (tfp h child)) l false w' 1 0) hw lc k (by omega)
      show Ok (ev none (d + 30) mm_X10_withChild 59 [.ref 19, .int (nI man), .int (nI child), .int (nI goal), .int (nI (l + 1)), .int x5, .int (nI w), .int (nI (fsF (fun w' => gV (HT W p h man child) goal (cnt p (tfp h child)) l false w' 1 0) w k)), .int (nI (mnF (fun w' => gV (HT W p h man child) goal (cnt p (tfp h child)) l false w' 1 0) w k)), .int 4, .int (nI k), v] [] g3) _
      rw [b_X10_withChild_59, m_if_pos (show nI k < 4 from nI_lt (b := 4) hk (by omega)), v_stepped _ _ w hw k (by omega), mb_some, mp_some, b_X10_withChild_74, e1]
      rw [show ev none (d + 29) mm_X10_childsDeed 0 [.ref 19, .int (nI (st w k)), .int 1, .int 0, .int (nI l), .null] [] g3 = _ from gm (st w k) 1 0 (d + 29) hst (by omega) (by omega) (by omega) (Nat.zero_le _), mb_some, mp_some, b_X10_withChild_83, mi_c (nI_ltI (by omega) (by omega))]
      by_cases z : gV (HT W p h man child) goal (cnt p (tfp h child)) l false (st w k) 1 0 < mnF (fun w' => gV (HT W p h man child) goal (cnt p (tfp h child)) l false w' 1 0) w k
      · rw [m_if_pos z, b_X10_withChild_99, mn_i (by omega) (by omega), b_X10_withChild_108]
        have := next (.int (nI (gV (HT W p h man child) goal (cnt p (tfp h child)) l false (st w k) 1 0))) g3 rfl
        rw [show fsF (fun w' => gV (HT W p h man child) goal (cnt p (tfp h child)) l false w' 1 0) w (k + 1) = k from if_pos z] at this
        rw [nI_1]
        exact this
      · rw [m_if_neg z, b_X10_withChild_99, mn_i (by omega) (by omega), b_X10_withChild_108]
        have := next (.int (nI (gV (HT W p h man child) goal (cnt p (tfp h child)) l false (st w k) 1 0))) g3 rfl
        rw [show fsF (fun w' => gV (HT W p h man child) goal (cnt p (tfp h child)) l false w' 1 0) w (k + 1) = fsF (fun w' => gV (HT W p h man child) goal (cnt p (tfp h child)) l false w' 1 0) w k from if_neg z] at this
        rw [nI_1]
        exact this
    · intro v g3 hg
      subst hg
      show Ok (ev none (d + 30) mm_X10_withChild 59 [.ref 19, .int (nI man), .int (nI child), .int (nI goal), .int (nI (l + 1)), .int x5, .int (nI w), .int (nI (fsF (fun w' => gV (HT W p h man child) goal (cnt p (tfp h child)) l false w' 1 0) w 4)), .int (nI (mnF (fun w' => gV (HT W p h man child) goal (cnt p (tfp h child)) l false w' 1 0) w 4)), .int 4, .int 4, v] [] g3) _
      rw [b_X10_withChild_59, m_if_neg (by decide)]
      refine ok_if (fun z => ok_some ⟨?_, F⟩) (fun z => ok_some ⟨?_, F⟩)
      · unfold tA
        rw [if_pos z, show gV (HT W p h man child) goal (cnt p (tfp h child)) (l + 1) true w 0 0 = _ from if_neg c]
      · unfold tA
        rw [if_neg z, if_neg c]
