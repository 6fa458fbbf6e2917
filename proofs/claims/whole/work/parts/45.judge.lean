/-! judging, years by draws -/
theorem sea_bit (v : Int32) (pl : Nat) (hpl : pl < 25) : (sea v).testBit pl = true ↔ (v = 99 ∨ v = nI pl) := by
  unfold sea
  by_cases c : v = 99
  · rw [if_pos c]
    exact ⟨fun _ => Or.inl c, fun _ => all_bit pl hpl⟩
  · rw [if_neg c]
    by_cases c2 : ix 25 v
    · have i2 := ix_cl c2 (by omega)
      rw [if_pos c2, t_tb2, decide_eq_true_iff]
      constructor
      · intro e
        rw [e] at i2
        exact Or.inr i2.2.symm
      · rintro (e | e)
        · exact absurd e c
        · rw [e]; exact nI_clamp (by omega)
    · rw [if_neg c2, Nat.zero_testBit]
      constructor
      · intro e; exact absurd e (by decide)
      · rintro (e | e)
        · exact absurd e c
        · exact absurd ⟨pl, hpl, e⟩ c2
/-- the first look that is wrong -/
def JD (P : Nat → Nat) (f2 : Nat → Int32) (lk S K : Nat) : Prop := K ≤ lk ∧ (∀ k, k < K → k ≤ S ∧ (f2 k = 99 ∨ f2 k = nI (P k))) ∧ (K = lk ∨ S < K ∨ ¬ (f2 K = 99 ∨ f2 K = nI (P K)))
theorem JD_ex (P : Nat → Nat) (f2 : Nat → Int32) (lk S : Nat) : ∃ K, JD P f2 lk S K := by
  obtain ⟨K, h1, h2⟩ := pk_least (fun k => k = lk ∨ S < k ∨ ¬ (f2 k = 99 ∨ f2 k = nI (P k))) ⟨lk, Or.inl rfl⟩
  refine ⟨K, Decidable.byContradiction (fun c => h2 lk (by omega) (Or.inl rfl)), fun k hk => ⟨?_, ?_⟩, h1⟩
  · exact Decidable.byContradiction (fun c => h2 k hk (Or.inr (Or.inl (by omega))))
  · exact Classical.byContradiction (fun c => h2 k hk (Or.inr (Or.inr c)))
def jdA (lk K : Nat) : Int32 := if K = lk then -2 else nI K
theorem x_judge {W : mW} {n p : Nat} {h : mH} {g : mG} (hX : XR W n p h g) {s L S s2 L2 K : Nat} {f f2 : Nat → Int32} (hs : s < 6) (hs2 : s2 < 6) (hR : RW s L f g) (hR2 : RW s2 L2 f2 g) (hS : SN L f S) (d : Nat) (one P0 : Nat) (h1 : one < n) (hP0 : P0 < 25) (hp0 : h 56 one = nI P0) {w : Nat → Nat} (hw : ∀ j, j < S → w j < 5 ∧ f j = nI (w j)) (hK : JD (rtP (HH W p h one) w P0) f2 (if L2 < 31 then L2 else 31) S K) : Ok (ev none (d + 6) mm_X10_firstWrong 0 [.ref 19, .ref (43 + 2 * s), .ref (43 + 2 * s2), .int (nI one), .null, .null, .null, .null] [] g) (fun r g2 => r = some (.int (jdA (if L2 < 31 then L2 else 31) K)) ∧ Fr sA g g2) := by
  have hn : n ≤ 6 := hX.1.1
  obtain ⟨k1, k2, k3, k4⟩ := hS
  have hL2 := hR2.1
  rw [b_X10_firstWrong_0 (isSh6 hs) (isSh6 hs2), x_steps hs hR ⟨k1, k2, k3, k4⟩, mb_some, mp_some, b_X10_firstWrong_4 (isSh6 hs) (isSh6 hs2), hR2.2.1, min_31 hR2.1, b_X10_firstWrong_15 (isSh6 hs) (isSh6 hs2)]
  have hlk : (if L2 < 31 then L2 else 31) ≤ 31 ∧ (if L2 < 31 then L2 else 31) ≤ L2 := by split <;> omega
  generalize (if L2 < 31 then L2 else 31) = lk at hlk hK ⊢
  obtain ⟨j1, j2, j3⟩ := hK
  refine ok_bnd (x_thinkOf hX d one S h1 (by omega)) ?_
  intro r g1 ⟨hr, F1, hT⟩
  subst hr
  have hX1 := XR_fr F1 hX
  have hR1 := RW_fr hs F1 hR
  have hR21 := RW_fr hs2 F1 hR2
  rw [mp_none, b_X10_firstWrong_24 (isSh6 hs) (isSh6 hs2), hT.1, mi_nI (by omega) (by omega), pk_cl one (hx := rfl), (hX1.2.1.2.2.1 one (by omega)).1, hp0]
  refine ok_loop (E := fun e (a : Nat) g => ev none (d + 6) mm_X10_firstWrong 41 [.ref 19, .ref (43 + 2 * s), .ref (43 + 2 * s2), .int (nI one), .int (nI S), .int (nI lk), .int (nI a), .int (nI e)] [] g) (I := fun e a g3 => (e ≤ S → a = rtP (HH W p h one) w P0 e) ∧ a < 25 ∧ g3 = g1) (P := K) ?_ ?_ 0 P0 g1 (by omega) ⟨fun _ => rfl, hP0, rfl⟩
  · intro e a g3 he ⟨ha, ha25, hg⟩ next
    subst hg
    obtain ⟨q1, q2⟩ := j2 e he
    have ha' := ha q1
    have hpl := rtP_lt (H := HH W p h one) (K := S) hP0 (fun j hj => (hw j hj).1) e q1
    have hsl := sea_lt (f2 e)
    have go : ∀ a', a' < 25 → (e < S → a' = rtP (HH W p h one) w P0 (e + 1)) → Ok (ev none (d + 6) mm_X10_firstWrong 106 [.ref 19, .ref (43 + 2 * s), .ref (43 + 2 * s2), .int (nI one), .int (nI S), .int (nI lk), .int (nI a'), .int (nI e)] [] g3) (fun r g2 => r = some (.int (jdA lk K)) ∧ Fr sA g g2) := by
      intro a' h25 h'
      rw [b_X10_firstWrong_106 (isSh6 hs) (isSh6 hs2), nI_1]
      exact next a' g3 ⟨fun z => h' (by omega), h25, rfl⟩
    show Ok (ev none (d + 6) mm_X10_firstWrong 41 [.ref 19, .ref (43 + 2 * s), .ref (43 + 2 * s2), .int (nI one), .int (nI S), .int (nI lk), .int (nI a), .int (nI e)] [] g3) _
    rw [b_X10_firstWrong_41 (isSh6 hs) (isSh6 hs2), m_if_pos (nI_lt (by omega) (by omega)), m_if_neg (nI_nlt (by omega) (by omega)), x_num hs2 hR21 _ e (by omega), mb_some, mp_some, b_X10_firstWrong_61 (isSh6 hs) (isSh6 hs2), v_seen, mb_some, mp_some, b_X10_firstWrong_64 (isSh6 hs) (isSh6 hs2), v_hasBit _ _ _ a (by omega) (by omega), mb_some, mp_some, b_X10_firstWrong_69 (isSh6 hs) (isSh6 hs2), mi_b2, m_if_pos ((sea_bit _ a ha25).mpr (by rw [ha']; exact q2))]
    refine ok_if (fun c => ?_) (fun c => ?_)
    · have c' : e < S := (nI_ltI (by omega) (by omega)).mp c
      rw [x_isHeld hT (by omega) _ a e ha25 (by omega), mb_some, mp_some, b_X10_firstWrong_90 (isSh6 hs) (isSh6 hs2), mi_b2]
      refine ok_if (fun c2 => ?_) (fun c2 => ?_)
      · rw [ha'] at c2
        exact go _ ha25 (fun _ => by rw [ha', rtP_h c2])
      · rw [x_num hs hR1 _ e (by omega), mb_some, mp_some, b_X10_firstWrong_101 (isSh6 hs) (isSh6 hs2), (hw e c').2, v_stepped _ _ _ ha25 _ (hw e c').1, mb_some, mp_some, b_X10_firstWrong_104 (isSh6 hs) (isSh6 hs2)]
        rw [ha'] at c2
        exact go _ (st_lt _ ha25 _ (hw e c').1) (fun _ => by rw [ha', rtP_s c2])
    · exact go _ ha25 (fun z => absurd (nI_lt z (by omega)) c)
  · intro a g3 ⟨ha, ha25, hg⟩
    subst hg
    have hsl := sea_lt (f2 K)
    show Ok (ev none (d + 6) mm_X10_firstWrong 41 [.ref 19, .ref (43 + 2 * s), .ref (43 + 2 * s2), .int (nI one), .int (nI S), .int (nI lk), .int (nI a), .int (nI K)] [] g3) _
    rw [b_X10_firstWrong_41 (isSh6 hs) (isSh6 hs2)]
    unfold jdA
    have hKS : K ≤ S + 1 := by
      by_cases z : K = 0
      · omega
      · have := (j2 (K - 1) (by omega)).1
        omega
    by_cases c : K = lk
    · rw [m_if_neg (nI_nlt (by omega) (by omega)), if_pos c]
      exact ok_some ⟨rfl, F1⟩
    · rw [m_if_pos (nI_lt (by omega) (by omega)), if_neg c]
      refine ok_if (fun c2 => ok_some ⟨rfl, F1⟩) (fun c2 => ?_)
      have c3 : K ≤ S := by
        refine Decidable.byContradiction (fun z => c2 (nI_lt (by omega) (by omega)))
      have j4 := (j3.resolve_left c).resolve_left (by omega)
      have ha' := ha c3
      rw [x_num hs2 hR21 _ K (by omega), mb_some, mp_some, b_X10_firstWrong_61 (isSh6 hs) (isSh6 hs2), v_seen, mb_some, mp_some, b_X10_firstWrong_64 (isSh6 hs) (isSh6 hs2), v_hasBit _ _ _ a (by omega) (by omega), mb_some, mp_some, b_X10_firstWrong_69 (isSh6 hs) (isSh6 hs2), mi_b2, m_if_neg (fun z => j4 (by
        have := (sea_bit _ a ha25).mp z
        rw [ha'] at this
        exact this))]
      exact ok_some ⟨rfl, F1⟩
theorem m_judge {W : mW} {n p : Nat} {h : mH} {g : mG} (hM : MC W n p h g) {s L S s2 L2 K : Nat} {f f2 : Nat → Int32} {x1 : Int32} (e1 : x1 / 10 = nI s) (e2 : x1 - x1 / 10 * 10 = nI s2) (hs : s < 6) (hs2 : s2 < 6) (hR : RW s L f g) (hR2 : RW s2 L2 f2 g) (hS : SN L f S) (d : Nat) (one P0 : Nat) (h1 : one < n) (hP0 : P0 < 25) (hp0 : h 56 one = nI P0) {w : Nat → Nat} (hw : ∀ j, j < S → w j < 5 ∧ f j = nI (w j)) (hK : JD (rtP (HH W p h one) w P0) f2 (if L2 < 31 then L2 else 31) S K) : Ok (ev none (d + 8) mm_X12_judge 65 [.ref 55, .int x1, .int (nI one), .null, .null, .null, .null] [.int (nI S)] g) (fun r g2 => r = some (.int (jdA (if L2 < 31 then L2 else 31) K)) ∧ Fr sA g g2) := by
  have hn : n ≤ 6 := hM.1.1
  obtain ⟨k1, k2, k3, k4⟩ := hS
  have hL2 := hR2.1
  have hlk : (if L2 < 31 then L2 else 31) ≤ 31 ∧ (if L2 < 31 then L2 else 31) ≤ L2 ∧ ((if L2 < 31 then L2 else 31) = 31 ∨ (if L2 < 31 then L2 else 31) = L2) := by split <;> omega
  generalize (if L2 < 31 then L2 else 31) = lk at hlk hK ⊢
  obtain ⟨j1, j2, j3⟩ := hK
  rw [b_X12_judge_65, mi_nI (by omega) (by omega), pk_cl one (hx := rfl), (hM.2.1.2.2.2.2 one).1, hp0]
  refine ok_loop (E := fun e (a : Nat × Value) g => ev none (d + 8) mm_X12_judge 77 [.ref 55, .int x1, .int (nI one), .int (nI S), .int (nI a.1), .int (nI e), a.2] [] g) (I := fun e a g3 => (e ≤ S → a.1 = rtP (HH W p h one) w P0 e) ∧ a.1 < 25 ∧ Fr sA g g3) (P := K) ?_ ?_ 0 (P0, .null) g (by omega) ⟨fun _ => rfl, hP0, fr_refl⟩
  · intro e ⟨a, v6⟩ g3 he ⟨ha, ha25, hg⟩ next
    dsimp only at ha ha25
    have hM3 := MC_fr hg hM
    have hR3 := RW_fr hs hg hR
    have hR23 := RW_fr hs2 hg hR2
    obtain ⟨q1, q2⟩ := j2 e he
    have ha' := ha q1
    have go : ∀ a' v g4, Fr sA g g4 → a' < 25 → (e < S → a' = rtP (HH W p h one) w P0 (e + 1)) → Ok (ev none (d + 8) mm_X12_judge 172 [.ref 55, .int x1, .int (nI one), .int (nI S), .int (nI a'), .int (nI e), .int v] [] g4) (fun r g2 => r = some (.int (jdA lk K)) ∧ Fr sA g g2) := by
      intro a' v g4 F4 h25 h'
      rw [b_X12_judge_172, nI_1]
      exact next (a', .int v) g4 ⟨fun z => h' (by omega), h25, F4⟩
    have c133 : ∀ v, Ok (ev none (d + 8) mm_X12_judge 133 [.ref 55, .int x1, .int (nI one), .int (nI S), .int (nI a), .int (nI e), .int v] [] g3) (fun r g2 => r = some (.int (jdA lk K)) ∧ Fr sA g g2) := by
      intro v
      rw [b_X12_judge_133]
      refine ok_if (fun c => ?_) (fun c => ?_)
      · have c' : e < S := (nI_ltI (by omega) (by omega)).mp c
        rw [v_dayOn, mb_some, mp_some, b_X12_judge_149, hM3.2.1.2.2.2.1]
        refine ok_bnd (m_isHeld hM3 _ _ _ _) ?_
        intro r g4 ⟨hr, F4⟩
        subst hr
        have F34 := fr_trans hg (fr_1A F4)
        have hR4 := RW_fr hs F34 hR
        rw [mp_some, b_X12_judge_152, mi_b2]
        refine ok_if (fun c2 => ?_) (fun c2 => ?_)
        · have c2' : HH W p h one e (rtP (HH W p h one) w P0 e) := by rw [← ha']; exact c2
          exact go _ _ _ F34 ha25 (fun _ => by rw [ha', rtP_h c2'])
        · have c2' : ¬ HH W p h one e (rtP (HH W p h one) w P0 e) := by rw [← ha']; exact c2
          rw [e1, m_at hs hR4 _ e (by omega), mb_some, mp_some, b_X12_judge_167, (hw e c').2, v_steppedM _ _ _ ha25 _ (hw e c').1, mb_some, mp_some, b_X12_judge_170]
          exact go _ _ _ F34 (st_lt _ ha25 _ (hw e c').1) (fun _ => by rw [ha', rtP_s c2'])
      · exact go _ _ _ hg ha25 (fun z => absurd (nI_lt z (by omega)) c)
    show Ok (ev none (d + 8) mm_X12_judge 77 [.ref 55, .int x1, .int (nI one), .int (nI S), .int (nI a), .int (nI e), v6] [] g3) _
    rw [b_X12_judge_77, m_if_pos (show nI e < 31 from nI_lt (b := 31) (by omega) (by omega)), e2, mi_nI hs2 (by omega), pk_cl s2 (hx := rfl), hR23.2.2.1, m_if_pos (nI_lt (by omega) (by omega)), m_at hs2 hR23 _ e (by omega), mb_some, mp_some, b_X12_judge_108, m_if_neg (nI_nlt (by omega) (by omega))]
    refine ok_if (fun c => c133 _) (fun c => ?_)
    rw [m_if_pos (by rw [ha']; exact q2.resolve_left c)]
    exact c133 _
  · intro ⟨a, v6⟩ g3 ⟨ha, ha25, hg⟩
    dsimp only at ha ha25
    have hR23 := RW_fr hs2 hg hR2
    show Ok (ev none (d + 8) mm_X12_judge 77 [.ref 55, .int x1, .int (nI one), .int (nI S), .int (nI a), .int (nI K), v6] [] g3) _
    rw [b_X12_judge_77, e2]
    unfold jdA
    by_cases c : K = lk
    · rw [if_pos c]
      refine ok_if (fun c2 => ?_) (fun c2 => ok_some ⟨rfl, hg⟩)
      have c2' : K < 31 := (nI_ltI (b := 31) (by omega) (by omega)).mp c2
      rw [mi_nI hs2 (by omega), pk_cl s2 (hx := rfl), hR23.2.2.1, m_if_neg (nI_nlt (by omega) (by omega))]
      exact ok_some ⟨rfl, hg⟩
    · rw [if_neg c, m_if_pos (show nI K < 31 from nI_lt (b := 31) (by omega) (by omega)), mi_nI hs2 (by omega), pk_cl s2 (hx := rfl), hR23.2.2.1, m_if_pos (nI_lt (by omega) (by omega)), m_at hs2 hR23 _ K (by omega), mb_some, mp_some, b_X12_judge_108]
      refine ok_if (fun c2 => ok_some ⟨rfl, hg⟩) (fun c2 => ?_)
      have c3 : K ≤ S := by
        refine Decidable.byContradiction (fun z => c2 (nI_lt (by omega) (by omega)))
      have j4 := (j3.resolve_left c).resolve_left (by omega)
      have ha' := ha c3
      rw [m_if_neg (fun z => j4 (Or.inl z)), m_if_neg (fun z => j4 (Or.inr (by rw [← ha']; exact z)))]
      exact ok_some ⟨rfl, hg⟩
theorem dig_10 {x : Int32} {m m2 : Nat} (hm : m < 1000) (hm2 : m2 ≤ 10) (h1 : ix m (x / 10)) (h2 : ix m2 (x - x / 10 * 10)) : ¬ x < 0 := fun c => neg_dig (k := 10) (by decide) (by omega) c (by omega) (by omega) ⟨h1, h2⟩
theorem o_judge : op_judge Inv 1299 := by
  intro g hI a1 a2
  obtain ⟨n, p, W, nb, hX, hM, hnb, hS⟩ := inv_SC hI
  have hn : n ≤ 6 := hX.1.1
  have hp : p ≤ 12 := hX.1.2.1
  have hMa : ∀ g1 : mG, ev none 1298 mm_X12_areShelves 0 [.int a1] [] g1 = some (some (.int (b2 (ix 6 (a1 / 10) ∧ ix 6 (a1 - a1 / 10 * 10)))), g1) := by
    intro g1
    rw [b_X12_areShelves_0, v_isShelfM, mb_some, mp_some, b_X12_areShelves_11, mi_b2, v_isShelfM, mb_some, mp_some, b_X12_areShelves_21, mi_b2, mi_tt, mi_t2, mi_f2]
    refine congrArg (fun z => some (some (Value.int z), g1)) (b2_c ⟨fun z => z.2, fun z => ⟨dig_10 (by omega) (by omega) z.1 z.2, z⟩⟩)
  have hMh : ∀ g1 : mG, MC W n p g.1 g1 → ev none 1299 mm_X12_judge 0 [.ref 55, .int a1, .int a2, .null, .null, .null, .null] [] g1 = m_if (ix 6 (a1 / 10) ∧ ix 6 (a1 - a1 / 10 * 10)) (m_if (ix n a2) (m_bnd (ev none 1298 mm_X12_rowFault 0 [.ref 55, .int (a1 / 10)] [] g1) (fun r g2 => ev none 1299 mm_X12_judge 25 [.ref 55, .int a1, .int a2, .null, .null, .null, .null] (m_psh r []) g2)) (some (some (.int (-1)), g1))) (some (some (.int (-1)), g1)) := by
    intro g1 hM1
    rw [b_X12_judge_0, hMa, mb_some, mp_some, b_X12_judge_4, mi_b2, v_isOne _ _ _ n (by omega) (MC_n hM1), mb_some, mp_some, b_X12_judge_12, mi_b2]
  rw [b_X11_judge_0, v_isShelf, mb_some, mp_some, b_X11_judge_15, mi_b2, v_isShelf, mb_some, mp_some, b_X11_judge_23, mi_b2, v_hasPerson _ g _ n (by omega) hX.2.1.1, mb_some, mp_some, b_X11_judge_34, mi_b2]
  by_cases h0 : ix 6 (a1 / 10)
  · by_cases h1 : ix 6 (a1 - a1 / 10 * 10)
    · by_cases h2 : ix n a2
      · rw [m_if_pos h0, m_if_pos h1, m_if_pos h2]
        have h01 := And.intro h0 h1
        obtain ⟨s, hs, e1⟩ := h0
        obtain ⟨s2, hs2, e2⟩ := h1
        obtain ⟨one, ho, e⟩ := h2
        subst e
        obtain ⟨P0, hP0, hp0⟩ := (hX.1.2.2.2.2.1 one ho).1
        have hMh' : ∀ g1 : mG, MC W n p g.1 g1 → ev none 1299 mm_X12_judge 0 [.ref 55, .int a1, .int (nI one), .null, .null, .null, .null] [] g1 = ev none 1299 mm_X12_judge 25 [.ref 55, .int a1, .int (nI one), .null, .null, .null, .null] [.int (rf (g1.1 90 s))] g1 := by
          intro g1 hM1
          rw [hMh g1 hM1, m_if_pos h01, m_if_pos (ix_nI ho), e1, v_rowFault hs, mb_some, mp_some]
        rw [e2, e1, mi_nI hs (by omega), pk_cl s (hx := rfl), sel6 hs, b_X11_judge_45 (isSh6 hs), v_refusal hs hnb _ _ hS, mb_some, mp_some, b_X11_judge_48]
        rcases rf_0 hs hnb hS with c | ⟨c, L, f, hR⟩
        · rw [m_if_neg (rf_ne c), b_X11_judge_67, m_if_neg (rf_ne c), b_X11_judge_98]
          refine op_bad _ hI rfl ?_
          rw [hMh' g hM, b_X12_judge_25, m_if_pos c, e1, v_rowFault hs, mb_some, mp_some, b_X12_judge_36]
        · rw [m_if_pos c, mi_nI hs2 (by omega), pk_cl s2 (hx := rfl), sel6 hs2, b_X11_judge_62 (isSh6 hs2), v_refusal hs2 hnb _ _ hS, mb_some, mp_some, b_X11_judge_65, b_X11_judge_67]
          rcases rf_0 hs2 hnb hS with c2 | ⟨c2, L2, f2, hR2⟩
          · rw [m_if_neg (rf_ne c2), b_X11_judge_98]
            refine op_bad _ hI rfl ?_
            rw [hMh' g hM, b_X12_judge_25, m_if_neg (rf_nn c), e2, v_rowFault hs2, mb_some, mp_some, b_X12_judge_45, m_if_pos c2, e2, v_rowFault hs2, mb_some, mp_some, b_X12_judge_56]
          · obtain ⟨S, hSN⟩ := SN_ex L f
            obtain ⟨w, hw⟩ := w_of hSN
            obtain ⟨K, hK⟩ := JD_ex (rtP (HH W p g.1 one) w P0) f2 (if L2 < 31 then L2 else 31) S
            rw [m_if_pos c2, mi_nI hs (by omega), pk_cl s (hx := rfl), sel6 hs, b_X11_judge_87 (isSh6 hs), mi_nI hs2 (by omega), pk_cl s2 (hx := rfl), sel6 hs2, b_X11_judge_94 (isSh6 hs) (isSh6 hs2)]
            refine op_th (jdA (if L2 < 31 then L2 else 31) K) hI ?_ ?_
            · refine ok_bnd (x_judge hX hs hs2 hR hR2 hSN 1292 one P0 ho hP0 hp0 hw hK) ?_
              intro r g2 ⟨hr, F⟩
              subst hr
              rw [mp_some, b_X11_judge_98]
              exact ok_some ⟨rfl, F⟩
            · intro g1 F1
              have hM1 := MC_fr F1 hM
              have hR1 := RW_fr hs F1 hR
              have hR21 := RW_fr hs2 F1 hR2
              have c1 : rf (g1.1 90 s) = 0 := by rw [F1.1 90 s rfl]; exact c
              have c21 : rf (g1.1 90 s2) = 0 := by rw [F1.1 90 s2 rfl]; exact c2
              rw [hMh' g1 hM1, b_X12_judge_25, m_if_neg (rf_nn c1), e2, v_rowFault hs2, mb_some, mp_some, b_X12_judge_45, m_if_neg (rf_nn c21), e1, m_steps hs hR1 hSN, mb_some, mp_some]
              exact m_judge hM1 e1 e2 hs hs2 hR1 hR21 hSN 1291 one P0 ho hP0 hp0 hw hK
      · rw [m_if_pos h0, m_if_pos h1, m_if_neg h2]
        exact op_bad (-1) hI rfl (by rw [hMh g hM, m_if_pos ⟨h0, h1⟩, m_if_neg h2])
    · rw [m_if_pos h0, m_if_neg h1]
      exact op_bad (-1) hI rfl (by rw [hMh g hM, m_if_neg (fun q => h1 q.2)])
  · rw [m_if_neg h0]
    exact op_bad (-1) hI rfl (by rw [hMh g hM, m_if_neg (fun q => h0 q.1)])
