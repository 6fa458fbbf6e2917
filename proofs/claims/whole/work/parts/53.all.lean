/-! OPERATIONS (13): all -/
def VPa (W : mW) (n p : Nat) (h : mH) (t : Nat) : Prop := sub t (PA n p h) ∧ AF W n p h t
theorem sub_pop {t A : Nat} (hA : A < 4096) (hs : sub t A) : pop t ≤ pop A ∧ (pop t = pop A → t = A) := by
  have ht : t < 4096 := Nat.lt_of_le_of_lt (sub_le hs) hA
  by_cases e : t = A
  · subst e; exact ⟨Nat.le_refl _, fun _ => rfl⟩
  · have : ∃ i, A.testBit i = true ∧ ¬ t.testBit i = true := by
      refine Classical.byContradiction (fun c => e (nat_ext (fun i => ⟨fun z => hs i z, fun z => ?_⟩)))
      exact Classical.byContradiction (fun y => c ⟨i, z, y⟩)
    obtain ⟨i, z, y⟩ := this
    have hi : i < 12 := by
      refine Decidable.byContradiction (fun c => ?_)
      have : A.testBit i = false := Nat.testBit_lt_two_pow (Nat.lt_of_lt_of_le hA (Nat.pow_le_pow_right (n := 2) (i := 12) (by omega) (by omega)))
      rw [this] at z
      exact absurd z (by decide)
    have c1 := cnt_less (p := 12) (q := i) (T := fun i => A.testBit i = true) (S := fun i => t.testBit i = true) hi z y (fun i _ hi => hs i hi)
    rw [← pop_k (k := 12) hA (by omega), ← pop_k (k := 12) ht (by omega)] at c1
    exact ⟨by omega, fun z => by omega⟩
theorem PA_lt {n p : Nat} {h : mH} (hV : V n p h) : PA n p h < 2 ^ n ∧ PA n p h < 64 := by
  have hn := hV.1
  have h1 : PA n p h < 2 ^ n := bts_lt
  have h2 : 2 ^ n ≤ 2 ^ 6 := Nat.pow_le_pow_right (by omega) hn
  exact ⟨h1, by omega⟩
theorem x_canFree {W : mW} {n p : Nat} {h : mH} {g : mG} (hX : XR W n p h g) (d : Nat) : ev none (d + 4) mm_X5_peopleWhoCanFree 0 [.ref 23, .null, .null] [] g = some (some (.int (nI (PA n p h))), g) := by
  have hp : p ≤ 12 := hX.1.2.1
  have hn : n ≤ 6 := hX.1.1
  rw [b_X5_peopleWhoCanFree_0]
  refine ok_eq (ok_loop (E := fun k (a : Nat) g => ev none (d + 4) mm_X5_peopleWhoCanFree 4 [.ref 23, .int (nI a), .int (nI k)] [] g) (I := fun k a g3 => a = UU k p h ∧ g3 = g) (P := n) ?_ ?_ 0 0 g (by omega) ⟨(bts_0.mpr (fun i hi => fun ⟨q, hq, _⟩ => by omega)).symm, rfl⟩)
  · intro k a g3 hk ⟨ha, hg⟩ next
    subst hg
    show Ok (ev none (d + 4) mm_X5_peopleWhoCanFree 4 [.ref 23, .int (nI a), .int (nI k)] [] g3) _
    rw [b_X5_peopleWhoCanFree_4, hX.2.1.1, m_if_pos (nI_lt hk (by omega)), x_there hX _ k hk, mb_some, mp_some, b_X5_peopleWhoCanFree_21, t_or, nI_1]
    refine next _ _ ⟨?_, rfl⟩
    rw [ha]
    refine nat_ext (fun i => ?_)
    unfold UU
    rw [Nat.testBit_or, Bool.or_eq_true, bts_bit, bts_bit]
    constructor
    · rintro (⟨h1, j, h2, h3⟩ | z)
      · exact ⟨h1, j, by omega, h3⟩
      · exact ⟨(TT_bit.mp z).1, k, by omega, z⟩
    · intro ⟨h1, j, h2, h3⟩
      by_cases e : j = k
      · subst e; exact Or.inr h3
      · exact Or.inl ⟨h1, j, by omega, h3⟩
  · intro a g3 ⟨ha, hg⟩
    subst hg
    show Ok (ev none (d + 4) mm_X5_peopleWhoCanFree 4 [.ref 23, .int (nI a), .int (nI n)] [] g3) _
    rw [b_X5_peopleWhoCanFree_4, hX.2.1.1, m_if_neg (nI_nlt (Nat.le_refl _) (by omega)), ha, x_peopleOf hX _ (UU n p h) (bts_12 hp), mb_some, mp_some, b_X5_peopleWhoCanFree_34]
    exact ok_some ⟨rfl, rfl⟩
theorem x_all {W : mW} {n p : Nat} {h : mH} {g : mG} (hX : XR W n p h g) (d : Nat) : Ok (ev none (d + 6) mm_X5_fewestPeople 0 [.ref 23, .null, .null, .null, .null, .null] [] g) (fun r g2 => Fr sA g g2 ∧ ∃ b, r = some (.int (nI b)) ∧ Bst (VPa W n p h) pop (some b)) := by
  have hp : p ≤ 12 := hX.1.2.1
  have hT' := (PA_lt hX.1).2
  have hAF : AF W n p h (PA n p h) := AF_A hX.1
  have sur' : ∀ T, T < 64 → ∀ t, sub t T → ∃ i, i < 2 ^ pop T ∧ pd 12 T i = t := fun T hT t hs => by
    obtain ⟨i, q1, q2⟩ := pd_sur 12 T t (by have := sub_le hs; omega) hs
    exact ⟨i, by rw [← popF_12 (by omega)]; exact q1, q2⟩
  rw [b_X5_fewestPeople_0, x_canFree hX, mb_some, mp_some, b_X5_fewestPeople_4, v_bitCount _ _ _ (by omega), mb_some, mp_some, b_X5_fewestPeople_10]
  generalize hTe : PA n p h = T at hT' hAF
  have hT : T < 4096 := by omega
  have hpT := pop_12 hT
  have h2p : 2 ^ pop T ≤ 2 ^ 12 := Nat.pow_le_pow_right (by omega) hpT
  rw [t_sh1 _ (by omega)]
  have sur := sur' T hT'
  refine ok_loop (E := fun i (a : Nat × Int32) g => ev none (d + 6) mm_X5_fewestPeople 20 [.ref 23, .int (nI T), .int (nI (2 ^ pop T)), .int (nI a.1), .int a.2, .int (nI i)] [] g) (I := fun i a g3 => (VPa W n p h a.1 ∧ (∀ j, j < i → VPa W n p h (pd 12 T j) → pop a.1 < pop (pd 12 T j) ∨ (pop a.1 = pop (pd 12 T j) ∧ a.1 ≤ pd 12 T j)) ∧ ((∃ j, j < i ∧ a.1 = pd 12 T j) ∨ a.1 = T)) ∧ (i < 2 ^ pop T → a.2 = nI (pd 12 T i)) ∧ Fr sA g g3) (P := 2 ^ pop T) ?_ ?_ 0 (T, 0) g (Nat.zero_le _) ⟨⟨⟨by rw [hTe]; exact fun _ z => z, hAF⟩, fun j hj => by omega, Or.inr rfl⟩, fun _ => by rw [pd_0]; rfl, fr_refl⟩
  · intro i ⟨F, le⟩ g3 hi ⟨⟨f1, f2, f3⟩, hl, hg⟩ next
    dsimp only at f1 f2 f3 hl
    have hX3 := XR_fr hg hX
    have hl' := hl hi
    subst hl'
    have hps : pd 12 T i < 4096 := pd_lt hT
    have hsb : sub (pd 12 T i) (PA n p h) := by rw [hTe]; exact pd_sub 12 T i
    have hp64 : pd 12 T i < 64 := Nat.lt_of_le_of_lt (sub_le (pd_sub 12 T i)) hT'
    have hF : F < 4096 := Nat.lt_of_le_of_lt (sub_le f1.1) (by rw [hTe]; exact hT)
    have nx : ∀ F' g4, Fr sA g g4 → VPa W n p h F' → (∀ j, j < i + 1 → VPa W n p h (pd 12 T j) → pop F' < pop (pd 12 T j) ∨ (pop F' = pop (pd 12 T j) ∧ F' ≤ pd 12 T j)) → ((∃ j, j < i + 1 ∧ F' = pd 12 T j) ∨ F' = T) → Ok (ev none (d + 6) mm_X5_fewestPeople 50 [.ref 23, .int (nI T), .int (nI (2 ^ pop T)), .int (nI F'), .int (nI (pd 12 T i)), .int (nI i)] [] g4) (fun r g2 => Fr sA g g2 ∧ ∃ b, r = some (.int (nI b)) ∧ Bst (VPa W n p h) pop (some b)) := by
      intro F' g4 hg4 a1 a2 a3
      by_cases c : i + 1 < 2 ^ pop T
      · rw [b_X5_fewestPeople_50, v_nextPart hT c, mb_some, mp_some, b_X5_fewestPeople_56, nI_1]
        exact next (F', _) g4 ⟨⟨a1, a2, a3⟩, fun _ => rfl, hg4⟩
      · rw [b_X5_fewestPeople_50, b_X5_nextPart_0, mb_some, mp_some, b_X5_fewestPeople_56, nI_1]
        exact next (F', _) g4 ⟨⟨a1, a2, a3⟩, fun z => absurd z c, hg4⟩
    have keep : ∀ g4, Fr sA g g4 → ¬ (pop (pd 12 T i) < pop F ∧ AF W n p h (pd 12 T i)) → Ok (ev none (d + 6) mm_X5_fewestPeople 50 [.ref 23, .int (nI T), .int (nI (2 ^ pop T)), .int (nI F), .int (nI (pd 12 T i)), .int (nI i)] [] g4) (fun r g2 => Fr sA g g2 ∧ ∃ b, r = some (.int (nI b)) ∧ Bst (VPa W n p h) pop (some b)) := by
      intro g4 hg4 c
      refine nx F g4 hg4 f1 (fun j hj hv => ?_) ?_
      · by_cases e : j = i
        · subst e
          have hle : pop F ≤ pop (pd 12 T j) := by
            refine Decidable.byContradiction (fun z => c ⟨by omega, hv.2⟩)
          rcases f3 with ⟨m, hm, em⟩ | em
          · have := pd_mono 12 T m j (by omega) (by rw [popF_12 hT]; exact hi)
            rw [← em] at this
            omega
          · by_cases z : pop F = pop (pd 12 T j)
            · have e2 : pd 12 T j = T := (sub_pop hT (pd_sub 12 T j)).2 (by rw [← z, em])
              rw [e2, em]
              exact Or.inr ⟨rfl, Nat.le_refl _⟩
            · exact Or.inl (by omega)
        · exact f2 j (by omega) hv
      · rcases f3 with ⟨m, hm, em⟩ | em
        · exact Or.inl ⟨m, by omega, em⟩
        · exact Or.inr em
    show Ok (ev none (d + 6) mm_X5_fewestPeople 20 [.ref 23, .int (nI T), .int (nI (2 ^ pop T)), .int (nI F), .int (nI (pd 12 T i)), .int (nI i)] [] g3) _
    have pb1 := pop_12 hps
    have pb2 := pop_12 hF
    rw [b_X5_fewestPeople_20, m_if_pos (nI_lt hi (by omega)), v_bitCount _ _ _ hps, mb_some, mp_some, b_X5_fewestPeople_31, v_bitCount _ _ _ hF, mb_some, mp_some, b_X5_fewestPeople_35, mi_c (nI_ltI (by omega) (by omega))]
    refine ok_if (fun c => ?_) (fun c => keep g3 hg (fun z => c z.1))
    refine ok_bnd (x_noHeld hX3 d (pd 12 T i) hp64) ?_
    intro r g4 ⟨hr, F4⟩
    subst hr
    have hg4 := fr_trans hg (fr_2A F4)
    rw [mp_some, b_X5_fewestPeople_44, mi_b2]
    refine ok_if (fun c2 => ?_) (fun c2 => keep g4 hg4 (fun z => c2 z.2))
    refine nx _ g4 hg4 ⟨hsb, c2⟩ (fun j hj hv => ?_) (Or.inl ⟨i, by omega, rfl⟩)
    by_cases e : j = i
    · subst e; exact Or.inr ⟨rfl, Nat.le_refl _⟩
    · have := f2 j (by omega) hv
      omega
  · intro ⟨F, le⟩ g3 ⟨⟨f1, f2, f3⟩, hl, hg⟩
    dsimp only at f1 f2 f3 hl
    show Ok (ev none (d + 6) mm_X5_fewestPeople 20 [.ref 23, .int (nI T), .int (nI (2 ^ pop T)), .int (nI F), .int le, .int (nI (2 ^ pop T))] [] g3) _
    rw [b_X5_fewestPeople_20, m_if_neg (nI_nlt (Nat.le_refl _) (by omega))]
    refine ok_some ⟨hg, F, rfl, f1, fun t ht => ?_⟩
    obtain ⟨j, q1, q2⟩ := sur t (by rw [← hTe]; exact ht.1)
    have := f2 j q1 (by rw [q2]; exact ht)
    rw [q2] at this
    exact this
theorem m_all {W : mW} {n p : Nat} {h : mH} {g : mG} (hM : MC W n p h g) (d : Nat) (x1 : Int32) : Ok (ev none (d + 9) mm_X12_all 16 [.ref 55, .int x1, .int (-2), .int 0] [] g) (fun r g2 => Fr sA g g2 ∧ ∃ b, r = some (.int (if x1 = 0 then nI (pop b) else nI b)) ∧ Bst (VPa W n p h) pop (some b)) := by
  have hn : n ≤ 6 := hM.1.1
  have h2p : 2 ^ n ≤ 2 ^ 6 := Nat.pow_le_pow_right (by omega) hn
  refine ok_loop (E := fun k (o : Option Nat) g => ev none (d + 9) mm_X12_all 16 [.ref 55, .int x1, .int (oI o), .int (nI k)] [] g) (I := fun k o g3 => Bst (fun t => t < k ∧ AF W n p h t) pop o ∧ Fr sA g g3) (P := 2 ^ n) ?_ ?_ 0 none g (Nat.zero_le _) ⟨Bst_0, fr_refl⟩
  · intro k o g3 hk ⟨hB, hg⟩ next
    have hM3 := MC_fr hg hM
    have stp : ∀ o' g4, Fr sA g g4 → Bst (fun t => t < k + 1 ∧ AF W n p h t) pop o' → Ok (ev none (d + 9) mm_X12_all 54 [.ref 55, .int x1, .int (oI o'), .int (nI k)] [] g4) (fun r g2 => Fr sA g g2 ∧ ∃ b, r = some (.int (if x1 = 0 then nI (pop b) else nI b)) ∧ Bst (VPa W n p h) pop (some b)) := by
      intro o' g4 F4 hb'
      rw [b_X12_all_54, nI_1]
      exact next o' g4 ⟨hb', F4⟩
    have fb : (∀ b, o = some b → pop k < pop b) → Ok (ev none (d + 9) mm_X12_all 44 [.ref 55, .int x1, .int (oI o), .int (nI k)] [] g3) (fun r g2 => Fr sA g g2 ∧ ∃ b, r = some (.int (if x1 = 0 then nI (pop b) else nI b)) ∧ Bst (VPa W n p h) pop (some b)) := by
      intro hlt
      rw [b_X12_all_44]
      refine ok_bnd (m_allFree hM3 d k (by omega)) ?_
      intro r g4 ⟨hr, F4⟩
      subst hr
      have F := fr_trans hg (fr_1A F4)
      rw [mp_some, b_X12_all_49, mi_b2]
      refine ok_if (fun c2 => ?_) (fun c2 => ?_)
      · exact stp (some k) g4 F (Bst_y hB c2 hlt)
      · exact stp o g4 F (Bst_n hB (Or.inl c2))
    show Ok (ev none (d + 9) mm_X12_all 16 [.ref 55, .int x1, .int (oI o), .int (nI k)] [] g3) _
    rw [b_X12_all_16, MC_n hM3, t_sh1 n (by omega), m_if_pos (nI_lt hk (by omega))]
    cases o with
    | none =>
      rw [m_if_pos (show oI none < 0 by decide)]
      exact fb (fun b hb => by cases hb)
    | some b =>
      have hbk := hB.1.1
      have pb1 := pop_12 (w := k) (by omega)
      have pb2 := pop_12 (w := b) (by omega)
      rw [m_if_neg (show ¬ oI (some b) < 0 from nI_pos (by omega)), v_bits _ _ _ (by omega), mb_some, mp_some, b_X12_all_34]
      show Ok (m_bnd (ev none (d + 8) mm_X12_bitsOf 0 [.int (nI b), .null, .null] [] g3) _) _
      rw [v_bits _ _ _ (by omega), mb_some, mp_some, b_X12_all_38, mi_c (nI_ltI (by omega) (by omega))]
      refine ok_if (fun c2 => ?_) (fun c2 => ?_)
      · exact fb (fun b' hb => by cases hb; exact c2)
      · exact stp (some b) g3 hg (Bst_n hB (Or.inr ⟨b, rfl, by omega⟩))
  · intro o g3 ⟨hB, hg⟩
    have hM3 := MC_fr hg hM
    show Ok (ev none (d + 9) mm_X12_all 16 [.ref 55, .int x1, .int (oI o), .int (nI (2 ^ n))] [] g3) _
    cases o with
    | none => exact absurd ⟨(PA_lt hM.1).1, AF_A hM.1⟩ (hB _)
    | some b =>
      have hbk := hB.1.1
      have hle : b &&& PA n p h ≤ b := Nat.and_le_left
      have hsb : sub (b &&& PA n p h) b := fun i hi => by
        rw [Nat.testBit_and, Bool.and_eq_true] at hi
        exact hi.1
      have q1 := hB.2 (b &&& PA n p h) ⟨by omega, (AF_s hM.1 b).mpr hB.1.2⟩
      have q2 := (sub_pop (t := b &&& PA n p h) (A := b) (by omega) hsb).1
      have ebb : b &&& PA n p h = b := by omega
      have hB' : Bst (VPa W n p h) pop (some b) := by
        refine ⟨⟨fun i hi => ?_, hB.1.2⟩, fun t ht => hB.2 t ⟨?_, ht.2⟩⟩
        · rw [← ebb, Nat.testBit_and, Bool.and_eq_true] at hi
          exact hi.2
        · have := sub_le ht.1
          have := (PA_lt hM.1).1
          omega
      rw [b_X12_all_16, MC_n hM3, t_sh1 n (by omega), m_if_neg (nI_nlt (Nat.le_refl _) (by omega))]
      refine ok_if (fun c => ?_) (fun c => ?_)
      · show Ok (m_bnd (ev none (d + 8) mm_X12_bitsOf 0 [.int (nI b), .null, .null] [] g3) _) _
        rw [v_bits _ _ _ (by omega), mb_some, mp_some, b_X12_all_68]
        exact ok_some ⟨hg, b, by rw [if_pos c], hB'⟩
      · exact ok_some ⟨hg, b, by rw [if_neg c]; rfl, hB'⟩
theorem o_all : op_all Inv 1299 := by
  intro g hI a2
  obtain ⟨n, p, W, hX, hM⟩ := inv_C hI
  by_cases h1 : ix 2 a2
  · obtain ⟨r, g1, e1, F1, b, hr, hB⟩ := x_all hX 1292
    subst hr
    have hM1 := MC_fr F1 hM
    obtain ⟨r2, g2, e2, F2, b', hr2, hB2⟩ := m_all hM1 1290 a2
    subst hr2
    have ebb : b = b' := by
      have := Bst_u hB hB2
      exact Option.some.inj this
    subst ebb
    have hb12 : b < 4096 := by
      have := sub_le hB.1.1
      have := (PA_lt hX.1).2
      omega
    have e1' : ev none 1298 mm_X5_fewestPeople 0 [.ref 23, .null, .null, .null, .null, .null] [] g = some (some (.int (nI b)), g1) := e1
    have e2' : ev none 1299 mm_X12_all 16 [.ref 55, .int a2, .int (-2), .int 0] [] g1 = _ := e2
    refine ⟨if a2 = 0 then nI (pop b) else nI b, g1, g2, ?_, ?_, inv_fr F2 (inv_fr F1 hI)⟩
    · rw [b_X11_all_0, v_isBit, mb_some, mp_some, b_X11_all_4, mi_b2, m_if_pos h1, e1', mb_some, mp_some, b_X11_all_16]
      by_cases c : a2 = 0
      · rw [m_if_pos c, v_bitCount _ _ _ hb12, mb_some, mp_some, b_X11_all_25, if_pos c]
      · rw [m_if_neg c, if_neg c]
    · rw [b_X12_all_0, v_in _ _ a2 1 2 (by omega) rfl, mb_some, mp_some, b_X12_all_6, mi_b2, m_if_pos h1, e2']
  · refine op_bad (-1) hI ?_ ?_
    · rw [b_X11_all_0, v_isBit, mb_some, mp_some, b_X11_all_4, mi_b2, m_if_neg h1]
    · rw [b_X12_all_0, v_in _ _ a2 1 2 (by omega) rfl, mb_some, mp_some, b_X12_all_6, mi_b2, m_if_neg h1]
