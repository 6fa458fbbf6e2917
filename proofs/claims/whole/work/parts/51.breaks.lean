/-! OPERATIONS (11): which words to break -/
def VPb (W : mW) (p : Nat) (h : mH) (one B t : Nat) : Prop := sub t (TT p h one) ∧ pop t ≤ B ∧ FR W p h one (h 57 one - nI (pop t)) t
/-- the least weight so far -/
def oW (f : Nat → Nat) (o : Option Nat) : Int32 := match o with
  | none => 2147483647
  | some j => nI (f j)
def oL (f : Nat → Nat) (o : Option Nat) : Int32 := match o with
  | none => -1
  | some j => nI (f j)
def oA (h : mH) (p : Nat) (x2 : Int32) (o : Option Nat) : Int32 := match o with
  | none => -2
  | some b => if x2 = 1 then nI b else nI (wsm h b p)
theorem x_breaks {W : mW} {n p : Nat} {h : mH} {g : mG} (hX : XR W n p h g) (d : Nat) (one B : Nat) (h1 : one < n) (hB : B < 10) (eB : h 57 one = nI B) : Ok (ev none (d + 5) mm_X5_leastRued 0 [.ref 23, .int (nI one), .null, .null, .null, .null, .null, .null, .null] [] g) (fun r g2 => Fr sA g g2 ∧ ∃ o, r = some (.int (oL id o)) ∧ Bst (VPb W p h one B) (fun t => wsm h t p) o) := by
  have hn : n ≤ 6 := hX.1.1
  have hp : p ≤ 12 := hX.1.2.1
  have hT := TT_lt hX.1 one
  have hpT := pop_12 hT.1
  have h2p : 2 ^ pop (TT p h one) ≤ 2 ^ 12 := Nat.pow_le_pow_right (by omega) hpT
  rw [b_X5_leastRued_0, x_there hX _ one h1, mb_some, mp_some, b_X5_leastRued_5, mi_nI (by omega) (by omega), pk_cl one (hx := rfl), (hX.2.1.2.2.1 one (by omega)).2.1, eB]
  refine ok_bnd (x_foresee hX d (TT p h one) B hT.1 (by omega) 1 nI (fun k _ => if_neg (by decide))) ?_
  intro r g1 ⟨hr, F1, hG⟩
  subst hr
  have hX1 := XR_fr F1 hX
  rw [mp_none, b_X5_leastRued_23, v_bitCount _ _ _ hT.1, mb_some, mp_some, b_X5_leastRued_28, t_sh1 _ (by omega)]
  generalize hTe : TT p h one = T at hT hpT h2p
  refine ok_loop (E := fun i (a : Option Nat × Int32) g => ev none (d + 5) mm_X5_leastRued 44 [.ref 23, .int (nI one), .int (nI T), .int (nI B), .int (nI (2 ^ pop T)), .int (oL (pd 12 T) a.1), .int (oW (fun j => wsm h (pd 12 T j) p) a.1), .int a.2, .int (nI i)] [] g) (I := fun i a g3 => Bst (fun j => j < i ∧ VPb W p h one B (pd 12 T j)) (fun j => wsm h (pd 12 T j) p) a.1 ∧ (i < 2 ^ pop T → a.2 = nI (pd 12 T i)) ∧ g3 = g1) (P := 2 ^ pop T) ?_ ?_ 0 (none, 0) g1 (Nat.zero_le _) ⟨Bst_0, fun _ => by rw [pd_0]; rfl, rfl⟩
  · intro i ⟨o, le⟩ g3 hi ⟨hb, hl, hg⟩ next
    dsimp only at hb hl
    subst hg
    have hl' := hl hi
    subst hl'
    have hps : pd 12 T i < 4096 := pd_lt hT.1
    have hsb : sub (pd 12 T i) (TT p h one) := by rw [hTe]; exact pd_sub 12 T i
    have pb1 := pop_12 hps
    have wb := wsm_le hX.1 (B := pd 12 T i) (k := p) (Nat.le_refl _)
    have nx : ∀ o', Bst (fun j => j < i + 1 ∧ VPb W p h one B (pd 12 T j)) (fun j => wsm h (pd 12 T j) p) o' → Ok (ev none (d + 5) mm_X5_leastRued 99 [.ref 23, .int (nI one), .int (nI T), .int (nI B), .int (nI (2 ^ pop T)), .int (oL (pd 12 T) o'), .int (oW (fun j => wsm h (pd 12 T j) p) o'), .int (nI (pd 12 T i)), .int (nI i)] [] g3) (fun r g2 => Fr sA g g2 ∧ ∃ o, r = some (.int (oL id o)) ∧ Bst (VPb W p h one B) (fun t => wsm h t p) o) := by
      intro o' a1
      by_cases c : i + 1 < 2 ^ pop T
      · rw [b_X5_leastRued_99, v_nextPart hT.1 c, mb_some, mp_some, b_X5_leastRued_105, nI_1]
        exact next (o', _) g3 ⟨a1, fun _ => rfl, rfl⟩
      · rw [b_X5_leastRued_99, b_X5_nextPart_0, mb_some, mp_some, b_X5_leastRued_105, nI_1]
        exact next (o', _) g3 ⟨a1, fun z => absurd z c, rfl⟩
    show Ok (ev none (d + 5) mm_X5_leastRued 44 [.ref 23, .int (nI one), .int (nI T), .int (nI B), .int (nI (2 ^ pop T)), .int (oL (pd 12 T) o), .int (oW (fun j => wsm h (pd 12 T j) p) o), .int (nI (pd 12 T i)), .int (nI i)] [] g3) _
    rw [b_X5_leastRued_44, m_if_pos (nI_lt hi (by omega)), v_bitCount _ _ _ hps, mb_some, mp_some, b_X5_leastRued_56, mi_c (nI_ltI (by omega) (by omega))]
    refine ok_if (fun c => nx o (Bst_n hb (Or.inl (fun z => absurd z.2.1 (by omega))))) (fun c => ?_)
    have fr := x_isFree (W := W) (M := B) (S := pd 12 T i) (bl := nI) hX.1 h1 hG hsb (by omega) (d + 3)
    rw [hTe] at fr
    rw [fr, mb_some, mp_some, b_X5_leastRued_67, mi_b2]
    refine ok_if (fun c2 => ?_) (fun c2 => nx o (Bst_n hb (Or.inl (fun z => c2 z.2.2))))
    have hv : VPb W p h one B (pd 12 T i) := ⟨hsb, by omega, c2⟩
    rw [x_weightOf hX1 _ _ (by omega), mb_some, mp_some, b_X5_leastRued_79]
    cases o with
    | none =>
      rw [m_if_pos (show nI (wsm h (pd 12 T i) p) < oW _ none from nI_lt (b := 2147483647) (by omega) (by omega)), x_weightOf hX1 _ _ (by omega), mb_some, mp_some, b_X5_leastRued_97]
      exact nx (some i) (Bst_y hb hv (fun b hb => by cases hb))
    | some b =>
      have wb2 := wsm_le hX.1 (B := pd 12 T b) (k := p) (Nat.le_refl _)
      rw [show oW (fun j => wsm h (pd 12 T j) p) (some b) = nI (wsm h (pd 12 T b) p) from rfl, mi_c (nI_ltI (by omega) (by omega))]
      refine ok_if (fun c3 => ?_) (fun c3 => nx (some b) (Bst_n hb (Or.inr ⟨b, rfl, by omega⟩)))
      rw [x_weightOf hX1 _ _ (by omega), mb_some, mp_some, b_X5_leastRued_97]
      exact nx (some i) (Bst_y hb hv (fun b' hb => by cases hb; exact c3))
  · intro ⟨o, le⟩ g3 ⟨hb, hl, hg⟩
    dsimp only at hb hl
    subst hg
    show Ok (ev none (d + 5) mm_X5_leastRued 44 [.ref 23, .int (nI one), .int (nI T), .int (nI B), .int (nI (2 ^ pop T)), .int (oL (pd 12 T) o), .int (oW (fun j => wsm h (pd 12 T j) p) o), .int le, .int (nI (2 ^ pop T))] [] g3) _
    rw [b_X5_leastRued_44, m_if_neg (nI_nlt (Nat.le_refl _) (by omega))]
    refine ok_some ⟨F1, o.map (pd 12 T), ?_, Bst_pd hT.1 (fun t ht => by rw [← hTe]; exact ht.1) hb⟩
    cases o <;> rfl
theorem m_breaks {W : mW} {n p : Nat} {h : mH} {g : mG} (hM : MC W n p h g) (d : Nat) (one B : Nat) (x2 : Int32) (h1 : one < n) (hB : B < 10) (eB : h 57 one = nI B) : Ok (ev none (d + 8) mm_X12_breaks 24 [.ref 55, .int (nI one), .int x2, .null, .null, .null] [.int (nI (TT p h one))] g) (fun r g2 => Fr sA g g2 ∧ ∃ o, r = some (.int (oA h p x2 o)) ∧ Bst (VPb W p h one B) (fun t => wsm h t p) o) := by
  have hn : n ≤ 6 := hM.1.1
  have hp : p ≤ 12 := hM.1.2.1
  have hT := TT_lt hM.1 one
  have h2p : 2 ^ p ≤ 2 ^ 12 := Nat.pow_le_pow_right (by omega) hp
  rw [b_X12_breaks_24]
  refine ok_loop (E := fun k (o : Option Nat) g => ev none (d + 8) mm_X12_breaks 32 [.ref 55, .int (nI one), .int x2, .int (nI (TT p h one)), .int (oI o), .int (nI k)] [] g) (I := fun k o g3 => Bst (fun t => t < k ∧ VPb W p h one B t) (fun t => wsm h t p) o ∧ Fr sA g g3) (P := 2 ^ p) ?_ ?_ 0 none g (Nat.zero_le _) ⟨Bst_0, fr_refl⟩
  · intro k o g3 hk ⟨hb, hg⟩ next
    have hM3 := MC_fr hg hM
    have stp : ∀ o' g4, Fr sA g g4 → Bst (fun t => t < k + 1 ∧ VPb W p h one B t) (fun t => wsm h t p) o' → Ok (ev none (d + 8) mm_X12_breaks 115 [.ref 55, .int (nI one), .int x2, .int (nI (TT p h one)), .int (oI o'), .int (nI k)] [] g4) (fun r g2 => Fr sA g g2 ∧ ∃ o, r = some (.int (oA h p x2 o)) ∧ Bst (VPb W p h one B) (fun t => wsm h t p) o) := by
      intro o' g4 F4 hb'
      rw [b_X12_breaks_115, nI_1]
      exact next o' g4 ⟨hb', F4⟩
    show Ok (ev none (d + 8) mm_X12_breaks 32 [.ref 55, .int (nI one), .int x2, .int (nI (TT p h one)), .int (oI o), .int (nI k)] [] g3) _
    have pb1 := pop_12 (w := k) (by omega)
    rw [b_X12_breaks_32, MC_p hM3, t_sh1 p (by omega), m_if_pos (nI_lt hk (by omega)), t_not, mi_c (adn_0 (by omega))]
    refine ok_if (fun c => ?_) (fun c => stp o g3 hg (Bst_n hb (Or.inl (fun z => c z.1))))
    rw [v_bits _ _ _ (by omega), mb_some, mp_some, b_X12_breaks_57, mi_nI (by omega) (by omega), pk_cl one (hx := rfl), (hM3.2.1.2.2.2.2 one).2.1, eB, mi_c (nI_ltI (by omega) (by omega))]
    refine ok_if (fun c1 => stp o g3 hg (Bst_n hb (Or.inl (fun z => absurd z.2.1 (by omega))))) (fun c1 => ?_)
    have fb : (∀ b, o = some b → wsm h k p < wsm h b p) → Ok (ev none (d + 8) mm_X12_breaks 89 [.ref 55, .int (nI one), .int x2, .int (nI (TT p h one)), .int (oI o), .int (nI k)] [] g3) (fun r g2 => Fr sA g g2 ∧ ∃ o, r = some (.int (oA h p x2 o)) ∧ Bst (VPb W p h one B) (fun t => wsm h t p) o) := by
      intro hlt
      rw [b_X12_breaks_89, mi_nI (by omega) (by omega), pk_cl one (hx := rfl), (hM3.2.1.2.2.2.2 one).2.1, eB, v_bits _ _ _ (by omega), mb_some, mp_some, b_X12_breaks_104]
      have hs : nI B - nI (pop k) = nI (B - pop k) := pk_sub (by omega)
      refine ok_bnd (m_freesBy hM3 d one k (nI B - nI (pop k)) h1 (by rw [hs]; exact ix_nI (by omega)) (by omega) (TT_65 c)) ?_
      intro r g4 ⟨hr, F4⟩
      subst hr
      have F := fr_trans hg (fr_1A F4)
      rw [mp_some, b_X12_breaks_108, mi_b2]
      refine ok_if (fun c2 => ?_) (fun c2 => ?_)
      · exact stp (some k) g4 F (Bst_y hb ⟨c, by omega, by rw [eB]; exact (FR_hld hM.1 h1 c).mp c2⟩ hlt)
      · exact stp o g4 F (Bst_n hb (Or.inl (fun z => c2 ((FR_hld hM.1 h1 c).mpr (by rw [← eB]; exact z.2.2)))))
    cases o with
    | none =>
      rw [m_if_pos (show oI none < 0 by decide)]
      exact fb (fun b hb => by cases hb)
    | some b =>
      have hbk := hb.1.1
      have wb1 := wsm_le hM.1 (B := k) (k := p) (Nat.le_refl _)
      have wb2 := wsm_le hM.1 (B := b) (k := p) (Nat.le_refl _)
      rw [m_if_neg (show ¬ oI (some b) < 0 from nI_pos (by omega)), m_weightsOf hM3 _ _ (by omega), mb_some, mp_some, b_X12_breaks_77]
      show Ok (m_bnd (ev none (d + 7) mm_X12_weightsOf 0 [.ref 55, .int (nI b), .null, .null] [] g3) _) _
      rw [m_weightsOf hM3 _ _ (by omega), mb_some, mp_some, b_X12_breaks_83, mi_c (nI_ltI (by omega) (by omega))]
      refine ok_if (fun c2 => ?_) (fun c2 => ?_)
      · exact fb (fun b' hb => by cases hb; exact c2)
      · exact stp (some b) g3 hg (Bst_n hb (Or.inr ⟨b, rfl, by omega⟩))
  · intro o g3 ⟨hb, hg⟩
    have hM3 := MC_fr hg hM
    have hB' : Bst (VPb W p h one B) (fun t => wsm h t p) o := Bst_c (fun t => ⟨fun z => z.2, fun z => ⟨by have := sub_le z.1; omega, z⟩⟩) hb
    show Ok (ev none (d + 8) mm_X12_breaks 32 [.ref 55, .int (nI one), .int x2, .int (nI (TT p h one)), .int (oI o), .int (nI (2 ^ p))] [] g3) _
    rw [b_X12_breaks_32, MC_p hM3, t_sh1 p (by omega), m_if_neg (nI_nlt (Nat.le_refl _) (by omega))]
    cases o with
    | none =>
      rw [m_if_pos (show oI none < 0 by decide), b_X12_breaks_131, b_X12_breaks_142]
      exact ok_some ⟨hg, none, rfl, hB'⟩
    | some b =>
      have hbk := hb.1.1
      rw [m_if_neg (show ¬ oI (some b) < 0 from nI_pos (by omega))]
      refine ok_if (fun c => ?_) (fun c => ?_)
      · rw [b_X12_breaks_131, b_X12_breaks_142]
        exact ok_some ⟨hg, some b, congrArg (fun z => some (Value.int z)) (if_pos c).symm, hB'⟩
      · show Ok (m_bnd (ev none (d + 7) mm_X12_weightsOf 0 [.ref 55, .int (nI b), .null, .null] [] g3) _) _
        rw [m_weightsOf hM3 _ _ (by omega), mb_some, mp_some, b_X12_breaks_142]
        exact ok_some ⟨hg, some b, congrArg (fun z => some (Value.int z)) (if_neg c).symm, hB'⟩
theorem o_breaks : op_breaks Inv 1299 := by
  intro g hI a1 a2
  obtain ⟨n, p, W, hX, hM⟩ := inv_C hI
  have hn : n ≤ 6 := hX.1.1
  have hp : p ≤ 12 := hX.1.2.1
  by_cases h0 : ix n a1
  · by_cases h1 : ix 2 a2
    · obtain ⟨one, ho, e⟩ := h0
      subst e
      obtain ⟨B, hB, eB⟩ := (hX.1.2.2.2.2.1 one ho).2
      obtain ⟨r, g1, e1, F1, o, hr, hb⟩ := x_breaks hX 1293 one B ho hB eB
      subst hr
      have hM1 := MC_fr F1 hM
      obtain ⟨r2, g2, e2, F2, o', hr2, hb2⟩ := m_breaks hM1 1291 one B a2 ho hB eB
      subst hr2
      have eoo := Bst_u hb hb2
      subst eoo
      have e1' : ev none 1298 mm_X5_leastRued 0 [.ref 23, .int (nI one), .null, .null, .null, .null, .null, .null, .null] [] g = some (some (.int (oL id o)), g1) := e1
      have e2' : ev none 1299 mm_X12_breaks 24 [.ref 55, .int (nI one), .int a2, .null, .null, .null] [.int (nI (TT p g.1 one))] g1 = _ := e2
      refine ⟨oA g.1 p a2 o, g1, g2, ?_, ?_, inv_fr F2 (inv_fr F1 hI)⟩
      · rw [b_X11_breaks_0, v_hasPerson _ g _ n (by omega) hX.2.1.1, mb_some, mp_some, b_X11_breaks_8, mi_b2, m_if_pos (ix_nI ho), v_isBit, mb_some, mp_some, b_X11_breaks_15, mi_b2, m_if_pos h1, e1', mb_some, mp_some, b_X11_breaks_28]
        cases o with
        | none => rw [m_if_pos (show oL id none < 0 by decide)]; rfl
        | some b =>
          have hb12 : b < 4096 := by
            have := sub_le hb.1.1
            have := (TT_lt hX.1 one).1
            omega
          rw [m_if_neg (show ¬ oL id (some b) < 0 from nI_pos (n := b) (by omega))]
          rcases ix_2.mpr h1 with c | c
          · subst c
            rw [m_if_pos rfl]
            show m_bnd (ev none 1298 mm_X9_weightOf 0 [.ref 1, .int (nI b), .null, .null] [] g1) _ = _
            rw [x_weightOf (XR_fr F1 hX) _ _ (by omega), mb_some, mp_some, b_X11_breaks_48]
            rfl
          · subst c
            rw [m_if_neg (by decide)]
            rfl
      · rw [b_X12_breaks_0, v_isOne _ _ _ n (by omega) (MC_n hM1), mb_some, mp_some, b_X12_breaks_5, mi_b2, m_if_pos (ix_nI ho), v_in _ _ a2 1 2 (by omega) rfl, mb_some, mp_some, b_X12_breaks_14, mi_b2, m_if_pos h1, m_here hM1 _ one ho, mb_some, mp_some, e2']
    · refine op_bad (-1) hI ?_ ?_
      · rw [b_X11_breaks_0, v_hasPerson _ g _ n (by omega) hX.2.1.1, mb_some, mp_some, b_X11_breaks_8, mi_b2, m_if_pos h0, v_isBit, mb_some, mp_some, b_X11_breaks_15, mi_b2, m_if_neg h1]
      · rw [b_X12_breaks_0, v_isOne _ _ _ n (by omega) (MC_n hM), mb_some, mp_some, b_X12_breaks_5, mi_b2, m_if_pos h0, v_in _ _ a2 1 2 (by omega) rfl, mb_some, mp_some, b_X12_breaks_14, mi_b2, m_if_neg h1]
  · refine op_bad (-1) hI ?_ ?_
    · rw [b_X11_breaks_0, v_hasPerson _ g _ n (by omega) hX.2.1.1, mb_some, mp_some, b_X11_breaks_8, mi_b2, m_if_neg h0]
    · rw [b_X12_breaks_0, v_isOne _ _ _ n (by omega) (MC_n hM), mb_some, mp_some, b_X12_breaks_5, mi_b2, m_if_neg h0]
