/-! OPERATIONS (21): by turns, the model plays -/
def MG (man child goal : Nat) (g : mG) : Prop := g.1 55 47 = nI man ∧ g.1 55 48 = nI child ∧ g.1 55 49 = nI goal
theorem MG_1 {man child goal : Nat} {g g' : mG} (F : Fr s1 g g') (h : MG man child goal g) : MG man child goal g' := ⟨(F.1 55 47 rfl).trans h.1, (F.1 55 48 rfl).trans h.2.1, (F.1 55 49 rfl).trans h.2.2⟩
/-- a step of the man's, and what comes behind it -/
theorem m_byStep {W : mW} {n p : Nat} {h : mH} {man child goal t : Nat} {N l : Nat} (ihc : ∀ w dd t g D, w < 25 → 3 * l + 9 ≤ D → MC W n p (rep h 64 (FT p h child t)) g → MG man child goal g → Ok (ev none D mm_X12_childBest 0 [.ref 55, .int (nI w), .int (nI dd), .int (nI l), .null, .null, .null] [] g) (fun r g2 => r = some (.int (nI (gV (HT W p h man child) goal N l false w dd t))) ∧ Fr s1 g g2)) {g : mG} (hM : MC W n p (rep h 64 (FT p h child t)) g) (hG : MG man child goal g) (way w dd D : Nat) (hway : way < 5) (hw : w < 25) (hD : 3 * l + 10 ≤ D) : Ok (ev none D mm_X12_byStep 0 [.ref 55, .int (nI way), .int (nI w), .int (nI dd), .int (nI (l + 1)), .null] [] g) (fun r g2 => r = some (.int (nI (@ite _ (HT W p h man child t dd w) (Classical.propDecidable _) (gV (HT W p h man child) goal N l false w (dd + 1) t) (gV (HT W p h man child) goal N l false (st w way) (dd + 1) t)))) ∧ Fr s1 g g2) := by
  obtain ⟨d, rfl⟩ : ∃ d, D = (d + 6) + 1 := ⟨D - 7, by omega⟩
  have e1 : nI (l + 1) - 1 = nI l := pk_sub (a := l + 1) (b := 1) (by omega)
  rw [b_X12_byStep_0, v_dayOn, mb_some, mp_some, b_X12_byStep_11, hG.1, hM.2.1.2.2.2.1]
  refine ok_bnd (m_isHeld hM d _ _ _) ?_
  intro r g1 ⟨hr, F1⟩
  subst hr
  have hM1 := MC_fr (fr_1A F1) hM
  have hG1 := MG_1 F1 hG
  rw [mp_some, b_X12_byStep_14, mi_b2]
  show Ok (m_if (HT W p h man child t dd w) _ _) _
  refine ok_if (fun c => ?_) (fun c => ?_)
  · rw [b_X12_byStep_26, e1, nI_1, if_pos c]
    refine ok_bnd (ihc w (dd + 1) t g1 _ hw (by omega) hM1 hG1) ?_
    intro r g2 ⟨hr, F2⟩
    subst hr
    rw [mp_some, b_X12_byStep_41]
    exact ok_some ⟨rfl, fr_trans F1 F2⟩
  · rw [v_steppedM _ _ w hw way hway, mb_some, mp_some, b_X12_byStep_26, e1, nI_1, if_neg c]
    refine ok_bnd (ihc (st w way) (dd + 1) t g1 _ (st_lt w hw way hway) (by omega) hM1 hG1) ?_
    intro r g2 ⟨hr, F2⟩
    subst hr
    rw [mp_some, b_X12_byStep_41]
    exact ok_some ⟨rfl, fr_trans F1 F2⟩
theorem gV_c0 {H : Nat → Nat → Nat → Prop} {goal N l w d t : Nat} (h : ¬ t < N) : gV H goal N (l + 1) false w d t = gV H goal N l true w d t := if_neg h
theorem gV_c1 {H : Nat → Nat → Nat → Prop} {goal N l w d t : Nat} (h : t < N) (z : gV H goal N l true w d t < gV H goal N l true w d (t + 1)) : gV H goal N (l + 1) false w d t = gV H goal N l true w d (t + 1) := (if_pos h).trans (if_pos z)
theorem gV_c2 {H : Nat → Nat → Nat → Prop} {goal N l w d t : Nat} (h : t < N) (z : ¬ gV H goal N l true w d t < gV H goal N l true w d (t + 1)) : gV H goal N (l + 1) false w d t = gV H goal N l true w d t := (if_pos h).trans (if_neg z)
theorem m_game {W : mW} {n p : Nat} {h : mH} (hV : V n p h) {man child goal : Nat} (hgo : goal < 25) : ∀ l, l ≤ 5 → (∀ w dd t g D, w < 25 → 3 * l + 9 ≤ D → MC W n p (rep h 64 (FT p h child t)) g → MG man child goal g → Ok (ev none D mm_X12_manBest 0 [.ref 55, .int (nI w), .int (nI dd), .int (nI l), .null, .null, .null] [] g) (fun r g2 => r = some (.int (nI (gV (HT W p h man child) goal (cnt p (tfp h child)) l true w dd t))) ∧ Fr s1 g g2)) ∧ (∀ w dd t g D, w < 25 → 3 * l + 9 ≤ D → MC W n p (rep h 64 (FT p h child t)) g → MG man child goal g → Ok (ev none D mm_X12_childBest 0 [.ref 55, .int (nI w), .int (nI dd), .int (nI l), .null, .null, .null] [] g) (fun r g2 => r = some (.int (nI (gV (HT W p h man child) goal (cnt p (tfp h child)) l false w dd t))) ∧ Fr s1 g g2)) := by
  have hp := hV.2.1
  intro l
  induction l with
  | zero =>
    intro _
    constructor
    · intro w dd t g D hw hD hM hG
      obtain ⟨d, rfl⟩ : ∃ d, D = d + 1 := ⟨D - 1, by omega⟩
      rw [b_X12_manBest_0, m_if_pos (show nI 0 = 0 from rfl), hG.2.2, v_farOf _ _ w hw goal hgo, mb_some, mp_some, b_X12_manBest_12]
      exact ok_some ⟨rfl, fr_refl⟩
    · intro w dd t g D hw hD hM hG
      obtain ⟨d, rfl⟩ : ∃ d, D = d + 1 := ⟨D - 1, by omega⟩
      rw [b_X12_childBest_0, m_if_pos (show nI 0 = 0 from rfl), hG.2.2, v_farOf _ _ w hw goal hgo, mb_some, mp_some, b_X12_childBest_12]
      exact ok_some ⟨rfl, fr_refl⟩
  | succ l ih =>
    intro hl
    obtain ⟨ihm, ihc⟩ := ih (by omega)
    have e1 : nI (l + 1) - 1 = nI l := pk_sub (a := l + 1) (b := 1) (by omega)
    constructor
    · intro w dd t g D hw hD hM hG
      obtain ⟨d, rfl⟩ : ∃ d, D = d + 1 := ⟨D - 1, by omega⟩
      rw [b_X12_manBest_0, m_if_neg (nI_ne0 (by omega) (by omega))]
      have b4 := m_byStep ihc hM hG 4 w dd d (by omega) hw (by omega)
      rw [show st w 4 = w from rfl, ite_self] at b4
      refine ok_bnd b4 ?_
      intro r g1 ⟨hr, F1⟩
      subst hr
      rw [mp_some, b_X12_manBest_21]
      refine ok_loop (E := fun k (a : Nat × Value) g => ev none (d + 1) mm_X12_manBest 26 [.ref 55, .int (nI w), .int (nI dd), .int (nI (l + 1)), .int (nI a.1), .int (nI k), a.2] [] g) (I := fun k a g3 => a.1 = @ite _ (HT W p h man child t dd w) (Classical.propDecidable _) (gV (HT W p h man child) goal (cnt p (tfp h child)) l false w (dd + 1) t) (mnF (fun w' => gV (HT W p h man child) goal (cnt p (tfp h child)) l false w' (dd + 1) t) w k) ∧ Fr s1 g g3) (P := 4) ?_ ?_ 0 (_, .null) g1 (by omega) ⟨(ite_self _).symm, F1⟩
      · intro k ⟨a, v⟩ g3 hk ⟨ha, F3⟩ next
        dsimp only at ha
        show Ok (ev none (d + 1) mm_X12_manBest 26 [.ref 55, .int (nI w), .int (nI dd), .int (nI (l + 1)), .int (nI a), .int (nI k), v] [] g3) _
        rw [b_X12_manBest_26, show (4 : Int32) = nI 4 from rfl, m_if_pos (nI_lt hk (by omega))]
        refine ok_bnd (m_byStep ihc (MC_fr (fr_1A F3) hM) (MG_1 F3 hG) k w dd d (by omega) hw (by omega)) ?_
        intro r g4 ⟨hr, F4⟩
        subst hr
        have F34 := fr_trans F3 F4
        rw [mp_some, b_X12_manBest_41]
        have lc : ∀ w', w' < 25 → gV (HT W p h man child) goal (cnt p (tfp h child)) l false w' (dd + 1) t ≤ 8 := fun w' hw' => gV_le hgo _ _ _ _ _ hw'
        have hst := st_lt w hw k (by omega)
        by_cases c : HT W p h man child t dd w
        · rw [if_pos c] at ha ⊢
          have := lc w hw
          rw [ha, m_if_neg (nI_nlt (Nat.le_refl _) (by omega)), b_X12_manBest_54, nI_1]
          exact next (_, _) g4 ⟨by rw [if_pos c], F34⟩
        · rw [if_neg c] at ha ⊢
          have q1 := lc _ hst
          have q2 := mnF_le (c := fun w' => gV (HT W p h man child) goal (cnt p (tfp h child)) l false w' (dd + 1) t) hw lc k (by omega)
          rw [ha, mi_c (nI_ltI (by omega) (by omega))]
          refine ok_if (fun z => ?_) (fun z => ?_)
          · rw [b_X12_manBest_54, nI_1]
            exact next (_, _) g4 ⟨by rw [if_neg c]; exact (if_pos z).symm, F34⟩
          · rw [b_X12_manBest_54, nI_1]
            exact next (_, _) g4 ⟨by rw [if_neg c]; exact (if_neg z).symm, F34⟩
      · intro ⟨a, v⟩ g3 ⟨ha, F3⟩
        dsimp only at ha
        show Ok (ev none (d + 1) mm_X12_manBest 26 [.ref 55, .int (nI w), .int (nI dd), .int (nI (l + 1)), .int (nI a), .int 4, v] [] g3) _
        rw [b_X12_manBest_26, m_if_neg (by decide)]
        exact ok_some ⟨by rw [ha]; rfl, F3⟩
    · intro w dd t g D hw hD hM hG
      obtain ⟨d, rfl⟩ : ∃ d, D = d + 1 := ⟨D - 1, by omega⟩
      rw [b_X12_childBest_0, m_if_neg (nI_ne0 (by omega) (by omega)), e1]
      refine ok_bnd (ihm w dd t g d hw (by omega) hM hG) ?_
      intro r g1 ⟨hr, F1⟩
      subst hr
      have hM1 := MC_fr (fr_1A F1) hM
      have hG1 := MG_1 F1 hG
      have lm : ∀ t, gV (HT W p h man child) goal (cnt p (tfp h child)) l true w dd t ≤ 8 := fun t => gV_le hgo _ _ _ _ _ hw
      obtain ⟨l1, l2⟩ := m_leastF hV hM1 hG1.2.1 d
      rw [mp_some, b_X12_childBest_22]
      by_cases c : t < cnt p (tfp h child)
      · obtain ⟨q, q1, q2, q3, q4⟩ := l1 c
        rw [q4, mb_some, mp_some, b_X12_childBest_28, m_if_neg (nI_pos (by omega)), mi_nI (i := q) (by omega) (by omega), pk_cl q (hx := rfl), e1]
        have r64 : ∀ k, g1.1 64 k = FT p h child t k := fun k => (hM1.2.1.2.2.2.2 k).2.2.2.2.2.2.2.2.1
        have hM2 : MC W n p (rep h 64 (FT p h child (t + 1))) (m_s1 g1 64 q 1) := MC_64 hM1 (FT_ix hV child (t + 1)) (FT_z hV child (t + 1)) (fun c' k' hc => s1_ne hc) (fun k => by
          rw [FT_s q1 q2 q3 k, s1_r, if_pos rfl, r64 k])
        refine ok_bnd (ihm w dd (t + 1) (m_s1 g1 64 q 1) d hw (by omega) hM2 ⟨(s1_ne (by omega)).trans hG1.1, (s1_ne (by omega)).trans hG1.2.1, (s1_ne (by omega)).trans hG1.2.2⟩) ?_
        intro r g3 ⟨hr, F3⟩
        subst hr
        have a1 := lm t
        have a2 := lm (t + 1)
        have z0 : g1.1 64 q = 0 := by rw [r64 q]; exact (FT_at q1 q2.1).mpr ⟨q2, by omega⟩
        have FF : Fr s1 g (m_s1 g3 64 q 0) := by
          refine ⟨fun c' k' hc => ?_, fun c' k' hc => ?_⟩
          · by_cases e : c' = 64
            · subst e
              by_cases e2 : k' = q
              · subst e2
                rw [s1_at, ← F1.1 64 k' hc, z0]
              · rw [s1_same e2, F3.1 64 k' hc, s1_same e2, F1.1 64 k' hc]
            · rw [s1_ne e, F3.1 c' k' hc, s1_ne e, F1.1 c' k' hc]
          · show g3.2 c' k' = _
            rw [F3.2 c' k' hc]
            exact F1.2 c' k' hc
        rw [mp_some, b_X12_childBest_55, mi_nI (i := q) (by omega) (by omega), pk_cl q (hx := rfl), mi_c (nI_ltI (by omega) (by omega))]
        refine ok_if (fun z => ok_some ⟨?_, FF⟩) (fun z => ok_some ⟨?_, FF⟩)
        · rw [gV_c1 c z]
        · rw [gV_c2 c z]
      · rw [l2 c, mb_some, mp_some, b_X12_childBest_28, m_if_pos (by decide)]
        refine ok_some ⟨?_, F1⟩
        rw [gV_c0 c]
