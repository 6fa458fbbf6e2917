/-! OPERATIONS (10): by how few words, what to break -/
theorem x_there {W : mW} {n p : Nat} {h : mH} {g : mG} (hX : XR W n p h g) (d : Nat) (one : Nat) (h1 : one < n) : ev none (d + 3) mm_X5_onWhereHeStands 0 [.ref 23, .int (nI one)] [] g = some (some (.int (nI (TT p h one))), g) := by
  have hn : n ≤ 6 := hX.1.1
  rw [b_X5_onWhereHeStands_0, mi_nI (by omega) (by omega), pk_cl one (hx := rfl), (hX.2.1.2.2.1 one (by omega)).1, hX.2.1.2.2.2.2.2.2.2, x_onAt hX, mb_some, mp_some, b_X5_onWhereHeStands_24]
  rfl
theorem m_here {W : mW} {n p : Nat} {h : mH} {g : mG} (hM : MC W n p h g) (d : Nat) (one : Nat) (h1 : one < n) : ev none (d + 3) mm_X12_hereOf 0 [.ref 55, .int (nI one)] [] g = some (some (.int (nI (TT p h one))), g) := by
  have hn : n ≤ 6 := hM.1.1
  rw [b_X12_hereOf_0, mi_nI (by omega) (by omega), pk_cl one (hx := rfl), (hM.2.1.2.2.2.2 one).1, hM.2.1.2.2.2.1, m_keptAt hM, mb_some, mp_some, b_X12_hereOf_15]
  rfl
theorem TT_lt {n p : Nat} {h : mH} (hV : V n p h) (one : Nat) : TT p h one < 4096 ∧ TT p h one < 2 ^ p := ⟨bts_12 hV.2.1, bts_lt⟩
theorem TT_65 {p : Nat} {h : mH} {one S : Nat} (hS : sub S (TT p h one)) : ∀ q, S.testBit q = true → q < p ∧ h 65 q = 0 := fun q hq => ⟨(TT_bit.mp (hS q hq)).1, (TT_bit.mp (hS q hq)).2.2.2.1⟩
def VPw (W : mW) (p : Nat) (h : mH) (one t : Nat) : Prop := sub t (TT p h one) ∧ FR W p h one (h 57 one) t
theorem VPw_T {W : mW} {p : Nat} {h : mH} {one : Nat} : VPw W p h one (TT p h one) := ⟨fun _ z => z, fun ⟨q, _, q1, q2, _⟩ => q2 q1⟩
theorem sub_eq {n p : Nat} {h : mH} {one t : Nat} (hV : V n p h) (hs : sub t (TT p h one)) (hp : pop t = pop (TT p h one)) : t = TT p h one := by
  refine nat_ext (fun i => ⟨fun z => hs i z, fun z => ?_⟩)
  refine Classical.byContradiction (fun c => ?_)
  have hi := (TT_bit.mp z).1
  have c1 := cnt_less (p := p) (q := i) (T := fun i => (TT p h one).testBit i = true) (S := fun i => t.testBit i = true) hi z c (fun i _ hi => hs i hi)
  rw [← pop_TT hV, ← pop_S hV.2.1 hs] at c1
  omega
theorem x_words {W : mW} {n p : Nat} {h : mH} {g : mG} (hX : XR W n p h g) (d : Nat) (one : Nat) (h1 : one < n) : Ok (ev none (d + 5) mm_X5_fewestWords 0 [.ref 23, .int (nI one), .null, .null, .null, .null, .null] [] g) (fun r g2 => Fr sA g g2 ∧ ∃ b, r = some (.int (nI b)) ∧ Bst (VPw W p h one) pop (some b)) := by
  have hp : p ≤ 12 := hX.1.2.1
  have hT := TT_lt hX.1 one
  have hpT := pop_12 hT.1
  have h2p : 2 ^ pop (TT p h one) ≤ 2 ^ 12 := Nat.pow_le_pow_right (by omega) hpT
  rw [b_X5_fewestWords_0, x_there hX _ one h1, mb_some, mp_some, b_X5_fewestWords_5]
  refine ok_bnd (x_foresee hX d (TT p h one) 12 hT.1 (by omega) 0 (fun _ => 0) (fun k _ => if_pos rfl)) ?_
  intro r g1 ⟨hr, F1, hG⟩
  subst hr
  rw [mp_none, b_X5_fewestWords_14, v_bitCount _ _ _ hT.1, mb_some, mp_some, b_X5_fewestWords_19, t_sh1 _ (by omega)]
  have sur : ∀ t, sub t (TT p h one) → ∃ i, i < 2 ^ pop (TT p h one) ∧ pd 12 (TT p h one) i = t := fun t hs => by
    obtain ⟨i, q1, q2⟩ := pd_sur 12 (TT p h one) t (by have := sub_le hs; omega) hs
    exact ⟨i, by rw [← popF_12 hT.1]; exact q1, q2⟩
  generalize hTe : TT p h one = T at hT hpT h2p sur
  refine ok_loop (E := fun i (a : Nat × Int32) g => ev none (d + 5) mm_X5_fewestWords 30 [.ref 23, .int (nI one), .int (nI T), .int (nI (2 ^ pop T)), .int (nI a.1), .int a.2, .int (nI i)] [] g) (I := fun i a g3 => (VPw W p h one a.1 ∧ (∀ j, j < i → VPw W p h one (pd 12 T j) → pop a.1 < pop (pd 12 T j) ∨ (pop a.1 = pop (pd 12 T j) ∧ a.1 ≤ pd 12 T j)) ∧ ((∃ j, j < i ∧ a.1 = pd 12 T j) ∨ a.1 = T)) ∧ (i < 2 ^ pop T → a.2 = nI (pd 12 T i)) ∧ g3 = g1) (P := 2 ^ pop T) ?_ ?_ 0 (T, 0) g1 (Nat.zero_le _) ⟨⟨by rw [← hTe]; exact VPw_T, fun j hj => by omega, Or.inr rfl⟩, fun _ => by rw [pd_0]; rfl, rfl⟩
  · intro i ⟨F, le⟩ g3 hi ⟨⟨f1, f2, f3⟩, hl, hg⟩ next
    dsimp only at f1 f2 f3 hl
    subst hg
    have hl' := hl hi
    subst hl'
    have hps : pd 12 T i < 4096 := pd_lt hT.1
    have hsb : sub (pd 12 T i) (TT p h one) := by rw [hTe]; exact pd_sub 12 T i
    have hF : F < 4096 := Nat.lt_of_le_of_lt (sub_le f1.1) (by rw [hTe]; exact hT.1)
    have nx : ∀ F', VPw W p h one F' → (∀ j, j < i + 1 → VPw W p h one (pd 12 T j) → pop F' < pop (pd 12 T j) ∨ (pop F' = pop (pd 12 T j) ∧ F' ≤ pd 12 T j)) → ((∃ j, j < i + 1 ∧ F' = pd 12 T j) ∨ F' = T) → Ok (ev none (d + 5) mm_X5_fewestWords 63 [.ref 23, .int (nI one), .int (nI T), .int (nI (2 ^ pop T)), .int (nI F'), .int (nI (pd 12 T i)), .int (nI i)] [] g3) (fun r g2 => Fr sA g g2 ∧ ∃ b, r = some (.int (nI b)) ∧ Bst (VPw W p h one) pop (some b)) := by
      intro F' a1 a2 a3
      by_cases c : i + 1 < 2 ^ pop T
      · rw [b_X5_fewestWords_63, v_nextPart hT.1 c, mb_some, mp_some, b_X5_fewestWords_69, nI_1]
        exact next (F', _) g3 ⟨⟨a1, a2, a3⟩, fun _ => rfl, rfl⟩
      · rw [b_X5_fewestWords_63, b_X5_nextPart_0, mb_some, mp_some, b_X5_fewestWords_69, nI_1]
        exact next (F', _) g3 ⟨⟨a1, a2, a3⟩, fun z => absurd z c, rfl⟩
    have keep : ¬ (pop (pd 12 T i) < pop F ∧ FR W p h one (h 57 one) (pd 12 T i)) → Ok (ev none (d + 5) mm_X5_fewestWords 63 [.ref 23, .int (nI one), .int (nI T), .int (nI (2 ^ pop T)), .int (nI F), .int (nI (pd 12 T i)), .int (nI i)] [] g3) (fun r g2 => Fr sA g g2 ∧ ∃ b, r = some (.int (nI b)) ∧ Bst (VPw W p h one) pop (some b)) := by
      intro c
      refine nx F f1 (fun j hj hv => ?_) ?_
      · by_cases e : j = i
        · subst e
          have hle : pop F ≤ pop (pd 12 T j) := by
            refine Decidable.byContradiction (fun z => c ⟨by omega, hv.2⟩)
          rcases f3 with ⟨m, hm, em⟩ | em
          · have := pd_mono 12 T m j (by omega) (by rw [popF_12 hT.1]; exact hi)
            rw [← em] at this
            omega
          · by_cases z : pop F = pop (pd 12 T j)
            · have e2 : pd 12 T j = TT p h one := sub_eq hX.1 hsb (by rw [← z, em, hTe])
              rw [e2, hTe, em]
              exact Or.inr ⟨rfl, Nat.le_refl _⟩
            · exact Or.inl (by omega)
        · exact f2 j (by omega) hv
      · rcases f3 with ⟨m, hm, em⟩ | em
        · exact Or.inl ⟨m, by omega, em⟩
        · exact Or.inr em
    show Ok (ev none (d + 5) mm_X5_fewestWords 30 [.ref 23, .int (nI one), .int (nI T), .int (nI (2 ^ pop T)), .int (nI F), .int (nI (pd 12 T i)), .int (nI i)] [] g3) _
    have pb1 := pop_12 hps
    have pb2 := pop_12 hF
    rw [b_X5_fewestWords_30, m_if_pos (nI_lt hi (by omega)), v_bitCount _ _ _ hps, mb_some, mp_some, b_X5_fewestWords_41, v_bitCount _ _ _ hF, mb_some, mp_some, b_X5_fewestWords_46, mi_c (nI_ltI (by omega) (by omega))]
    refine ok_if (fun c => ?_) (fun c => keep (fun z => c z.1))
    have fr := x_isFree (W := W) (M := 12) (S := pd 12 T i) (bl := fun _ => 0) hX.1 h1 hG hsb pb1 (d + 3)
    rw [hTe, Int32.sub_zero] at fr
    rw [fr, mb_some, mp_some, b_X5_fewestWords_56, mi_b2]
    refine ok_if (fun c2 => ?_) (fun c2 => keep (fun z => c2 z.2))
    refine nx _ ⟨hsb, c2⟩ (fun j hj hv => ?_) (Or.inl ⟨i, by omega, rfl⟩)
    by_cases e : j = i
    · subst e; exact Or.inr ⟨rfl, Nat.le_refl _⟩
    · have := f2 j (by omega) hv
      omega
  · intro ⟨F, le⟩ g3 ⟨⟨f1, f2, f3⟩, hl, hg⟩
    dsimp only at f1 f2 f3 hl
    subst hg
    show Ok (ev none (d + 5) mm_X5_fewestWords 30 [.ref 23, .int (nI one), .int (nI T), .int (nI (2 ^ pop T)), .int (nI F), .int le, .int (nI (2 ^ pop T))] [] g3) _
    rw [b_X5_fewestWords_30, m_if_neg (nI_nlt (Nat.le_refl _) (by omega))]
    refine ok_some ⟨F1, F, rfl, f1, fun t ht => ?_⟩
    obtain ⟨j, q1, q2⟩ := sur t (by rw [← hTe]; exact ht.1)
    have := f2 j q1 (by rw [q2]; exact ht)
    rw [q2] at this
    exact this
/-- a found set, or none -/
def oI (o : Option Nat) : Int32 := match o with
  | none => -2
  | some b => nI b
theorem adn_0 {k T : Nat} (hk : k < 2 ^ 31) : nI (adn k T) = 0 ↔ sub k T := by
  have hl := adn_le k T
  rw [show (0 : Int32) = nI 0 from rfl, nI_eq (by omega) (by omega)]
  constructor
  · intro e i hi
    have : (adn k T).testBit i = false := by rw [e, Nat.zero_testBit]
    rw [adn_bit, hi] at this
    cases z : T.testBit i with
    | true => rfl
    | false => rw [z] at this; exact absurd this (by decide)
  · intro hs
    refine Nat.eq_of_testBit_eq (fun i => ?_)
    rw [adn_bit, Nat.zero_testBit]
    cases z : k.testBit i with
    | false => rfl
    | true => rw [hs i z]; rfl
theorem m_words {W : mW} {n p : Nat} {h : mH} {g : mG} (hM : MC W n p h g) (d : Nat) (one : Nat) (x2 : Int32) (h1 : one < n) : Ok (ev none (d + 8) mm_X12_words 24 [.ref 55, .int (nI one), .int x2, .null, .null, .null] [.int (nI (TT p h one))] g) (fun r g2 => Fr sA g g2 ∧ ∃ b, r = some (.int (if x2 = 0 then nI (pop b) else nI b)) ∧ Bst (VPw W p h one) pop (some b)) := by
  have hn : n ≤ 6 := hM.1.1
  have hp : p ≤ 12 := hM.1.2.1
  have hT := TT_lt hM.1 one
  have h2p : 2 ^ p ≤ 2 ^ 12 := Nat.pow_le_pow_right (by omega) hp
  have hb10 := (hM.1.2.2.2.2.1 one h1).2
  rw [b_X12_words_24]
  refine ok_loop (E := fun k (o : Option Nat) g => ev none (d + 8) mm_X12_words 32 [.ref 55, .int (nI one), .int x2, .int (nI (TT p h one)), .int (oI o), .int (nI k)] [] g) (I := fun k o g3 => Bst (fun t => t < k ∧ VPw W p h one t) pop o ∧ Fr sA g g3) (P := 2 ^ p) ?_ ?_ 0 none g (Nat.zero_le _) ⟨Bst_0, fr_refl⟩
  · intro k o g3 hk ⟨hB, hg⟩ next
    have hM3 := MC_fr hg hM
    have stp : ∀ o' g4, Fr sA g g4 → Bst (fun t => t < k + 1 ∧ VPw W p h one t) pop o' → Ok (ev none (d + 8) mm_X12_words 93 [.ref 55, .int (nI one), .int x2, .int (nI (TT p h one)), .int (oI o'), .int (nI k)] [] g4) (fun r g2 => Fr sA g g2 ∧ ∃ b, r = some (.int (if x2 = 0 then nI (pop b) else nI b)) ∧ Bst (VPw W p h one) pop (some b)) := by
      intro o' g4 F4 hb'
      rw [b_X12_words_93, nI_1]
      exact next o' g4 ⟨hb', F4⟩
    show Ok (ev none (d + 8) mm_X12_words 32 [.ref 55, .int (nI one), .int x2, .int (nI (TT p h one)), .int (oI o), .int (nI k)] [] g3) _
    rw [b_X12_words_32, MC_p hM3, t_sh1 p (by omega), m_if_pos (nI_lt hk (by omega)), t_not, mi_c (adn_0 (by omega))]
    refine ok_if (fun c => ?_) (fun c => stp o g3 hg (Bst_n hB (Or.inl (fun z => c z.1))))
    have fb : (∀ b, o = some b → pop k < pop b) → Ok (ev none (d + 8) mm_X12_words 73 [.ref 55, .int (nI one), .int x2, .int (nI (TT p h one)), .int (oI o), .int (nI k)] [] g3) (fun r g2 => Fr sA g g2 ∧ ∃ b, r = some (.int (if x2 = 0 then nI (pop b) else nI b)) ∧ Bst (VPw W p h one) pop (some b)) := by
      intro hlt
      rw [b_X12_words_73, mi_nI (by omega) (by omega), pk_cl one (hx := rfl), (hM3.2.1.2.2.2.2 one).2.1]
      refine ok_bnd (m_freesBy hM3 d one k _ h1 hb10 (by omega) (TT_65 c)) ?_
      intro r g4 ⟨hr, F4⟩
      subst hr
      have F := fr_trans hg (fr_1A F4)
      rw [mp_some, b_X12_words_86, mi_b2]
      refine ok_if (fun c2 => ?_) (fun c2 => ?_)
      · exact stp (some k) g4 F (Bst_y hB ⟨c, (FR_hld hM.1 h1 c).mp c2⟩ hlt)
      · exact stp o g4 F (Bst_n hB (Or.inl (fun z => c2 ((FR_hld hM.1 h1 c).mpr z.2))))
    cases o with
    | none =>
      rw [m_if_pos (show oI none < 0 by decide)]
      exact fb (fun b hb => by cases hb)
    | some b =>
      have hbk := hB.1.1
      have pb1 := pop_12 (w := k) (by omega)
      have pb2 := pop_12 (w := b) (by omega)
      rw [m_if_neg (show ¬ oI (some b) < 0 from nI_pos (by omega)), v_bits _ _ _ (by omega), mb_some, mp_some, b_X12_words_62]
      show Ok (m_bnd (ev none (d + 7) mm_X12_bitsOf 0 [.int (nI b), .null, .null] [] g3) _) _
      rw [v_bits _ _ _ (by omega), mb_some, mp_some, b_X12_words_67, mi_c (nI_ltI (by omega) (by omega))]
      refine ok_if (fun c2 => ?_) (fun c2 => ?_)
      · exact fb (fun b' hb => by cases hb; exact c2)
      · exact stp (some b) g3 hg (Bst_n hB (Or.inr ⟨b, rfl, by omega⟩))
  · intro o g3 ⟨hB, hg⟩
    have hM3 := MC_fr hg hM
    have hB' : Bst (VPw W p h one) pop o := Bst_c (fun t => ⟨fun z => z.2, fun z => ⟨by have := sub_le z.1; omega, z⟩⟩) hB
    show Ok (ev none (d + 8) mm_X12_words 32 [.ref 55, .int (nI one), .int x2, .int (nI (TT p h one)), .int (oI o), .int (nI (2 ^ p))] [] g3) _
    cases o with
    | none => exact absurd VPw_T (hB' _)
    | some b =>
      have hbk := hB.1.1
      rw [b_X12_words_32, MC_p hM3, t_sh1 p (by omega), m_if_neg (nI_nlt (Nat.le_refl _) (by omega))]
      refine ok_if (fun c => ?_) (fun c => ?_)
      · show Ok (m_bnd (ev none (d + 7) mm_X12_bitsOf 0 [.int (nI b), .null, .null] [] g3) _) _
        rw [v_bits _ _ _ (by omega), mb_some, mp_some, b_X12_words_108]
        exact ok_some ⟨hg, b, by rw [if_pos c], hB'⟩
      · exact ok_some ⟨hg, b, by rw [if_neg c]; rfl, hB'⟩
theorem o_words : op_words Inv 1299 := by
  intro g hI a1 a2
  obtain ⟨n, p, W, hX, hM⟩ := inv_C hI
  have hn : n ≤ 6 := hX.1.1
  have hp : p ≤ 12 := hX.1.2.1
  by_cases h0 : ix n a1
  · by_cases h1 : ix 2 a2
    · obtain ⟨one, ho, e⟩ := h0
      subst e
      obtain ⟨r, g1, e1, F1, b, hr, hB⟩ := x_words hX 1293 one ho
      subst hr
      have hM1 := MC_fr F1 hM
      obtain ⟨r2, g2, e2, F2, b', hr2, hB2⟩ := m_words hM1 1291 one a2 ho
      subst hr2
      have ebb : b = b' := by
        have := Bst_u hB hB2
        exact Option.some.inj this
      subst ebb
      have hb12 : b < 4096 := by
        have := sub_le hB.1.1
        have := (TT_lt hX.1 one).1
        omega
      have e1' : ev none 1298 mm_X5_fewestWords 0 [.ref 23, .int (nI one), .null, .null, .null, .null, .null] [] g = some (some (.int (nI b)), g1) := e1
      have e2' : ev none 1299 mm_X12_words 24 [.ref 55, .int (nI one), .int a2, .null, .null, .null] [.int (nI (TT p g.1 one))] g1 = _ := e2
      refine ⟨if a2 = 0 then nI (pop b) else nI b, g1, g2, ?_, ?_, inv_fr F2 (inv_fr F1 hI)⟩
      · rw [b_X11_words_0, v_hasPerson _ g _ n (by omega) hX.2.1.1, mb_some, mp_some, b_X11_words_8, mi_b2, m_if_pos (ix_nI ho), v_isBit, mb_some, mp_some, b_X11_words_15, mi_b2, m_if_pos h1, e1', mb_some, mp_some, b_X11_words_28]
        by_cases c : a2 = 0
        · rw [m_if_pos c, v_bitCount _ _ _ hb12, mb_some, mp_some, b_X11_words_37, if_pos c]
        · rw [m_if_neg c, if_neg c]
      · rw [b_X12_words_0, v_isOne _ _ _ n (by omega) (MC_n hM1), mb_some, mp_some, b_X12_words_5, mi_b2, m_if_pos (ix_nI ho), v_in _ _ a2 1 2 (by omega) rfl, mb_some, mp_some, b_X12_words_14, mi_b2, m_if_pos h1, m_here hM1 _ one ho, mb_some, mp_some, e2']
    · refine op_bad (-1) hI ?_ ?_
      · rw [b_X11_words_0, v_hasPerson _ g _ n (by omega) hX.2.1.1, mb_some, mp_some, b_X11_words_8, mi_b2, m_if_pos h0, v_isBit, mb_some, mp_some, b_X11_words_15, mi_b2, m_if_neg h1]
      · rw [b_X12_words_0, v_isOne _ _ _ n (by omega) (MC_n hM), mb_some, mp_some, b_X12_words_5, mi_b2, m_if_pos h0, v_in _ _ a2 1 2 (by omega) rfl, mb_some, mp_some, b_X12_words_14, mi_b2, m_if_neg h1]
  · refine op_bad (-1) hI ?_ ?_
    · rw [b_X11_words_0, v_hasPerson _ g _ n (by omega) hX.2.1.1, mb_some, mp_some, b_X11_words_8, mi_b2, m_if_neg h0]
    · rw [b_X12_words_0, v_isOne _ _ _ n (by omega) (MC_n hM), mb_some, mp_some, b_X12_words_5, mi_b2, m_if_neg h0]
