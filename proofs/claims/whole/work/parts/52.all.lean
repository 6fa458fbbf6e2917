/-! OPERATIONS (12): whom to free, so that nobody is held -/
def rep (h : mH) (c0 : Nat) (F : Nat → Int32) : mH := fun c k => if c = c0 then F k else h c k
theorem rep_o {h : mH} {c0 : Nat} {F : Nat → Int32} {c k : Nat} (hc : c ≠ c0) : rep h c0 F c k = h c k := if_neg hc
theorem rep_e {h : mH} {c0 : Nat} {F : Nat → Int32} {k : Nat} : rep h c0 F c0 k = F k := if_pos rfl
theorem V_65 {n p : Nat} {h : mH} {F : Nat → Int32} (hV : V n p h) (h1 : ∀ i, i < 12 → ix 2 (F i)) (h2 : ∀ i, p ≤ i → i < 12 → F i = 0) : V n p (rep h 65 F) := by
  obtain ⟨v1, v2, v3, v4, v5, v6, v7, v8, v9, v10⟩ := hV
  exact ⟨v1, v2, v3, v4, v5, v6, fun i hi => ⟨(v7 i hi).1, h1 i hi⟩, fun i a b => ⟨(v8 i a b).1, h2 i a b⟩, v9, v10⟩
theorem MC_65 {W : mW} {n p : Nat} {h : mH} {F : Nat → Int32} {g g' : mG} (hM : MC W n p h g) (h1 : ∀ i, i < 12 → ix 2 (F i)) (h2 : ∀ i, p ≤ i → i < 12 → F i = 0) (hg : ∀ c k, c ≠ 65 → g'.1 c k = g.1 c k) (hF : ∀ k, g'.1 65 k = F k) : MC W n p (rep h 65 F) g' := by
  obtain ⟨hV, ⟨t1, t2, t3, t4, t5⟩, hL⟩ := hM
  refine ⟨V_65 hV h1 h2, ⟨(hg _ _ (by decide)).trans t1, (hg _ _ (by decide)).trans t2, (hg _ _ (by decide)).trans t3, (hg _ _ (by decide)).trans t4, fun k => ?_⟩, ?_⟩
  · obtain ⟨a1, a2, a3, a4, a5, a6, a7, a8, a9, a10⟩ := t5 k
    exact ⟨(hg _ _ (by decide)).trans a1, (hg _ _ (by decide)).trans a2, (hg _ _ (by decide)).trans a3, (hg _ _ (by decide)).trans a4, (hg _ _ (by decide)).trans a5, (hg _ _ (by decide)).trans a6, (hg _ _ (by decide)).trans a7, (hg _ _ (by decide)).trans a8, (hg _ _ (by decide)).trans a9, hF k⟩
  · unfold LM
    rw [hg 55 35 (by decide)]
    rcases hL with h3 | ⟨h3, h4⟩
    · exact Or.inl h3
    · exact Or.inr ⟨h3, ML_fr (fun j hj => ⟨hg _ _ (by decide), hg _ _ (by decide)⟩) (hg _ _ (by decide)) (fun j hj => ⟨hg _ _ (by decide), hg _ _ (by decide)⟩) h4⟩
theorem hld_c {W : mW} {p : Nat} {h h' : mH} {one pl day : Int32} (h1 : ∀ c k, c ≠ 65 → h' c k = h c k) (h2 : ∀ q, q < p → h 58 q = one → h 60 q = pl → (onP h' day q ↔ onP h day q)) : hld W p h' one pl day ↔ hld W p h one pl day := by
  have key : ∀ q, q < p → (grA W p h' one pl day q ↔ grA W p h one pl day q) := by
    intro q hq
    unfold grA grp
    rw [h1 58 q (by decide), h1 60 q (by decide), h1 55 13 (by decide)]
    have hdq : h 58 q = one → h 60 q = pl → hd W p h' day q = hd W p h day q := by
      intro a b
      have ot : oth p h' day q = oth p h day q := cnt_c (fun e he => by
        unfold othP
        rw [h1 58 e (by decide), h1 58 q (by decide), h1 60 e (by decide), h1 60 q (by decide)]
        exact ⟨fun ⟨z1, z2, z3, z4⟩ => ⟨z1, z2, z3, (h2 e he (z2.trans a) (z3.trans b)).mp z4⟩, fun ⟨z1, z2, z3, z4⟩ => ⟨z1, z2, z3, (h2 e he (z2.trans a) (z3.trans b)).mpr z4⟩⟩)
      unfold hd lf
      rw [ot, h1 58 q (by decide), h1 57 _ (by decide), h1 61 q (by decide), h1 63 q (by decide), h1 64 q (by decide)]
    exact ⟨fun ⟨a, b, c, e⟩ => ⟨a, b, (h2 q hq a b).mp c, by rw [← hdq a b]; exact e⟩, fun ⟨a, b, c, e⟩ => ⟨a, b, (h2 q hq a b).mpr c, by rw [hdq a b]; exact e⟩⟩
  exact ⟨fun ⟨q, hq, z⟩ => ⟨q, hq, (key q hq).mp z⟩, fun ⟨q, hq, z⟩ => ⟨q, hq, (key q hq).mpr z⟩⟩
/-- gone, when these people let go -/
def Fs (k : Nat) (h : mH) (set : Nat) : Nat → Int32 := fun i => if i < k ∧ set.testBit (h 59 i).toNatClampNeg = true then 1 else h 65 i
theorem Fs_ix {n p k : Nat} {h : mH} (hV : V n p h) (set : Nat) : ∀ i, i < 12 → ix 2 (Fs k h set i) := by
  intro i hi
  unfold Fs
  split
  · exact ⟨1, by omega, rfl⟩
  · exact (hV.2.2.2.2.2.2.1 i hi).2
theorem Fs_0 {n p : Nat} {h : mH} (hV : V n p h) (set : Nat) : ∀ i, p ≤ i → i < 12 → Fs p h set i = 0 := by
  intro i h1 h2
  unfold Fs
  rw [if_neg (by omega)]
  exact (hV.2.2.2.2.2.2.2.1 i h1 h2).2
def hA (p : Nat) (h : mH) (set : Nat) : mH := rep h 65 (Fs p h set)
theorem hA_on {p : Nat} {h : mH} {set : Nat} {day : Int32} {q : Nat} (hq : q < p) : onP (hA p h set) day q ↔ (¬ set.testBit (h 59 q).toNatClampNeg = true ∧ onP h day q) := by
  unfold onP
  show (Fs p h set q = 0 ∧ ¬ day < h 62 q ∧ ¬ h 63 q < day) ↔ _
  unfold Fs
  by_cases c : set.testBit (h 59 q).toNatClampNeg = true
  · rw [if_pos ⟨hq, c⟩]
    exact ⟨fun z => absurd z.1 (by decide), fun z => absurd c z.1⟩
  · rw [if_neg (fun z => c z.2)]
    exact ⟨fun z => ⟨c, z⟩, fun z => z.2⟩
def AF (W : mW) (n p : Nat) (h : mH) (set : Nat) : Prop := ∀ i, i < n → ¬ hld W p (hA p h set) (nI i) (h 56 i) (h 55 14)
/-- the people to whom these are promised -/
noncomputable def PPk (n k : Nat) (h : mH) (S : Nat) : Nat := bts n (fun j => ∃ q, q < k ∧ S.testBit q = true ∧ h 59 q = nI j)
theorem PPk_f {n k : Nat} {h : mH} {S : Nat} (hc : ¬ S.testBit k = true) : PPk n (k + 1) h S = PPk n k h S := by
  refine bts_c (fun j hj => ⟨fun ⟨q, h1, h2, h3⟩ => ⟨q, ?_, h2, h3⟩, fun ⟨q, h1, h2, h3⟩ => ⟨q, by omega, h2, h3⟩⟩)
  have : q ≠ k := fun e => by rw [e] at h2; exact hc h2
  omega
theorem PPk_t {n k : Nat} {h : mH} {S j : Nat} (hc : S.testBit k = true) (hj : j < n) (hn : n ≤ 6) (e : h 59 k = nI j) : PPk n (k + 1) h S = PPk n k h S ||| 2 ^ j := by
  refine nat_ext (fun i => ?_)
  unfold PPk
  rw [Nat.testBit_or, Bool.or_eq_true, bts_bit, bts_bit, t_tb2, decide_eq_true_eq]
  constructor
  · intro ⟨hi, q, h1, h2, h3⟩
    by_cases c : q = k
    · subst c
      rw [e] at h3
      exact Or.inr ((nI_eq (by omega) (by omega)).mp h3)
    · exact Or.inl ⟨hi, q, by omega, h2, h3⟩
  · rintro (⟨hi, q, h1, h2, h3⟩ | c)
    · exact ⟨hi, q, by omega, h2, h3⟩
    · subst c
      exact ⟨hj, k, by omega, hc, e⟩
theorem x_peopleOf {W : mW} {n p : Nat} {h : mH} {g : mG} (hX : XR W n p h g) (d : Nat) (S : Nat) (hS : S < 4096) : ev none (d + 1) mm_X5_peopleOf 0 [.ref 23, .int (nI S), .null, .null] [] g = some (some (.int (nI (PPk n p h S))), g) := by
  have hp : p ≤ 12 := hX.1.2.1
  have hn : n ≤ 6 := hX.1.1
  rw [b_X5_peopleOf_0]
  refine ok_eq (ok_loop (E := fun k (a : Nat) g => ev none (d + 1) mm_X5_peopleOf 4 [.ref 23, .int (nI S), .int (nI a), .int (nI k)] [] g) (I := fun k a g3 => a = PPk n k h S ∧ g3 = g) (P := p) ?_ ?_ 0 0 g (by omega) ⟨(bts_0.mpr (fun i hi => fun ⟨q, hq, _⟩ => by omega)).symm, rfl⟩)
  · intro k a g3 hk ⟨ha, hg⟩ next
    subst hg
    obtain ⟨j, hj, ej⟩ := (hX.1.2.2.2.2.2.1 k hk).2.1
    show Ok (ev none (d + 1) mm_X5_peopleOf 4 [.ref 23, .int (nI S), .int (nI a), .int (nI k)] [] g3) _
    rw [b_X5_peopleOf_4, hX.2.1.2.1, m_if_pos (nI_lt hk (by omega)), v_hasBit _ _ _ _ (by omega) (by omega), mb_some, mp_some, b_X5_peopleOf_20, mi_b2]
    refine ok_if (fun c => ?_) (fun c => ?_)
    · rw [mi_nI (by omega) (by omega), pk_cl k (hx := rfl), (hX.2.1.2.2.2.1 k (by omega)).2.1, ej, t_or1 (by omega), b_X5_peopleOf_37, nI_1]
      exact next _ _ ⟨by rw [PPk_t c hj hn ej, ha], rfl⟩
    · rw [b_X5_peopleOf_37, nI_1]
      exact next _ _ ⟨by rw [PPk_f c, ha], rfl⟩
  · intro a g3 ⟨ha, hg⟩
    subst hg
    show Ok (ev none (d + 1) mm_X5_peopleOf 4 [.ref 23, .int (nI S), .int (nI a), .int (nI p)] [] g3) _
    rw [b_X5_peopleOf_4, hX.2.1.2.1, m_if_neg (nI_nlt (Nat.le_refl _) (by omega))]
    exact ok_some ⟨by rw [ha], rfl⟩
/-- what anybody may be held by -/
noncomputable def UU (k p : Nat) (h : mH) : Nat := bts p (fun q => ∃ i, i < k ∧ (TT p h i).testBit q = true)
noncomputable def PA (n p : Nat) (h : mH) : Nat := PPk n p h (UU n p h)
theorem PA_bit {n p : Nat} {h : mH} (hV : V n p h) {i q : Nat} (hi : i < n) (hq : (TT p h i).testBit q = true) : (PA n p h).testBit (h 59 q).toNatClampNeg = true := by
  have hn := hV.1
  have hqp := (TT_bit.mp hq).1
  obtain ⟨j, hj, ej⟩ := (hV.2.2.2.2.2.1 q hqp).2.1
  rw [ej, nI_clamp (by omega)]
  exact (bts_bit j).mpr ⟨hj, q, hqp, (bts_bit q).mpr ⟨hqp, i, hi, hq⟩, ej⟩
theorem AF_A {W : mW} {n p : Nat} {h : mH} (hV : V n p h) : AF W n p h (PA n p h) := by
  intro i hi ⟨q, hq, a, b, c, _⟩
  obtain ⟨c1, c2⟩ := (hA_on hq).mp c
  exact c1 (PA_bit hV hi (TT_bit.mpr ⟨hq, a, b, c2⟩))
theorem AF_s {W : mW} {n p : Nat} {h : mH} (hV : V n p h) (set : Nat) : AF W n p h (set &&& PA n p h) ↔ AF W n p h set := by
  unfold AF
  have key : ∀ i, i < n → (hld W p (hA p h (set &&& PA n p h)) (nI i) (h 56 i) (h 55 14) ↔ hld W p (hA p h set) (nI i) (h 56 i) (h 55 14)) := by
    intro i hi
    refine hld_c (fun c k hc => (rep_o hc).trans (rep_o hc).symm) (fun q hq a b => ?_)
    rw [hA_on hq, hA_on hq, Nat.testBit_and]
    constructor
    · intro ⟨z1, z2⟩
      rw [PA_bit hV hi (TT_bit.mpr ⟨hq, a, b, z2⟩), Bool.and_true] at z1
      exact ⟨z1, z2⟩
    · intro ⟨z1, z2⟩
      rw [PA_bit hV hi (TT_bit.mpr ⟨hq, a, b, z2⟩), Bool.and_true]
      exact ⟨z1, z2⟩
  exact ⟨fun z i hi => fun y => z i hi ((key i hi).mpr y), fun z i hi => fun y => z i hi ((key i hi).mp y)⟩
theorem BT_c {x : Int32} {f f' : Nat → Int32} (hb : BT x f) (h : ∀ i, i < 12 → f' i = f i) : BT x f' := by
  obtain ⟨F, h1, h2, h3⟩ := hb
  exact ⟨F, h1, h2, fun i hi => (h i hi).trans (h3 i hi)⟩
theorem x_noHeld {W : mW} {n p : Nat} {h : mH} {g : mG} (hX : XR W n p h g) (d : Nat) (set : Nat) (hs : set < 64) : Ok (ev none (d + 5) mm_X5_nobodyIsHeldWithout 0 [.ref 23, .int (nI set), .null, .null] [] g) (fun r g2 => r = some (.int (b2 (AF W n p h set))) ∧ Fr s2 g g2) := by
  have hp : p ≤ 12 := hX.1.2.1
  have hn : n ≤ 6 := hX.1.1
  obtain ⟨g', e1, F1, hM, hR⟩ := x_now hX (d + 4)
  obtain ⟨hV, hXT, hLX, o1, o2, o3, o4⟩ := hM
  rw [b_X5_nobodyIsHeldWithout_0, e1, mb_some, mp_some, b_X5_nobodyIsHeldWithout_7]
  refine ok_loop (E := fun k (_ : Unit) g => ev none (d + 5) mm_X5_nobodyIsHeldWithout 10 [.ref 23, .int (nI set), .ref 15, .int (nI k)] [] g) (I := fun k _ g3 => Fr s2 g' g3 ∧ BT (g3.1 15 1) (Fs k h set) ∧ g3.1 15 0 = h 55 14 ∧ BT (g3.1 15 2) (h 64) ∧ g3.1 15 3 = 0) (P := p) ?_ ?_ 0 () g' (by omega) ⟨fr_refl, BT_c o2 (fun i _ => if_neg (by omega)), o1, o3, o4⟩
  · intro k _ g3 hk ⟨F3, b1, b2', b3, b4⟩ next
    have hT := XT_fr (fr_2A F3) hXT
    obtain ⟨j, hj, ej⟩ := (hV.2.2.2.2.2.1 k hk).2.1
    have ec : (h 59 k).toNatClampNeg = j := by rw [ej, nI_clamp (by omega)]
    show Ok (ev none (d + 5) mm_X5_nobodyIsHeldWithout 10 [.ref 23, .int (nI set), .ref 15, .int (nI k)] [] g3) _
    rw [b_X5_nobodyIsHeldWithout_10, hT.2.1, m_if_pos (nI_lt hk (by omega)), mi_nI (by omega) (by omega), pk_cl k (hx := rfl), (hT.2.2.2.2 k (by omega)).2.1, ej, v_hasBit _ _ _ _ (by omega) (by omega), mb_some, mp_some, b_X5_nobodyIsHeldWithout_34, mi_b2]
    refine ok_if (fun c => ?_) (fun c => ?_)
    · rw [b_X5_nobodyIsHeldWithout_49, nI_1]
      refine next () _ ⟨fr_s1 F3 rfl, ?_, (s1_same (by decide)).trans b2', by rw [s1_same (by decide)]; exact b3, (s1_same (by decide)).trans b4⟩
      rw [s1_at]
      refine BT_c (BT_set b1 (by omega)) (fun i hi => ?_)
      unfold upd Fs
      by_cases e : i = k
      · subst e
        rw [if_pos ⟨by omega, by rw [ec]; exact c⟩, if_pos rfl]
      · rw [if_neg e]
        by_cases c2 : i < k ∧ set.testBit (h 59 i).toNatClampNeg = true
        · rw [if_pos c2, if_pos ⟨by omega, c2.2⟩]
        · rw [if_neg c2, if_neg (fun z => c2 ⟨by omega, z.2⟩)]
    · rw [b_X5_nobodyIsHeldWithout_49, nI_1]
      refine next () _ ⟨F3, BT_c b1 (fun i hi => ?_), b2', b3, b4⟩
      unfold Fs
      by_cases c2 : i < k ∧ set.testBit (h 59 i).toNatClampNeg = true
      · rw [if_pos c2, if_pos ⟨by omega, c2.2⟩]
      · rw [if_neg c2, if_neg (fun z => c2 ⟨by
          have : i ≠ k := fun e => by rw [e, ec] at z; exact c z.2
          omega, z.2⟩)]
  · intro _ g4 ⟨F4, b1, b2', b3, b4⟩
    have hT4 := XT_fr (fr_2A F4) hXT
    have hX4 : XM W n p (hA p h set) (h 55 14) g4 := ⟨V_65 hV (Fs_ix hV set) (Fs_0 hV set), hT4, LX_fr (fr_2A F4) hLX, b2', b1, b3, b4⟩
    show Ok (ev none (d + 5) mm_X5_nobodyIsHeldWithout 10 [.ref 23, .int (nI set), .ref 15, .int (nI p)] [] g4) _
    rw [b_X5_nobodyIsHeldWithout_10, hT4.2.1, m_if_neg (nI_nlt (Nat.le_refl _) (by omega))]
    refine ok_loop (E := fun k (_ : Unit) g => ev none (d + 5) mm_X5_nobodyIsHeldWithout 57 [.ref 23, .int (nI set), .ref 15, .int (nI k)] [] g) (I := fun k _ g5 => (∀ i, i < k → ¬ hld W p (hA p h set) (nI i) (h 56 i) (h 55 14)) ∧ Fr s1 g4 g5) (P := n) ?_ ?_ 0 () g4 (by omega) ⟨fun i hi => by omega, fr_refl⟩
    · intro k _ g5 hk ⟨hall, F5⟩ next
      have hX5 := XM_fr F5 hX4
      show Ok (ev none (d + 5) mm_X5_nobodyIsHeldWithout 57 [.ref 23, .int (nI set), .ref 15, .int (nI k)] [] g5) _
      rw [b_X5_nobodyIsHeldWithout_57, hX5.2.1.1, m_if_pos (nI_lt hk (by omega)), mi_nI (by omega) (by omega), pk_cl k (hx := rfl), (hX5.2.1.2.2.2.1 k (by omega)).1]
      refine ok_bnd (x_gripsAt hX5 hV.2.2.2.2.2.2.2.2.2 d (nI k) (hA p h set 56 k)) ?_
      intro r g6 ⟨hr, F6⟩
      subst hr
      rw [mp_some, b_X5_nobodyIsHeldWithout_86, mi_c (bts_ne hp)]
      refine ok_if (fun c => ?_) (fun c => ?_)
      · rw [nI_1]
        refine next () _ ⟨fun i hi => ?_, fr_trans F5 F6⟩
        by_cases e : i = k
        · subst e; exact c
        · exact hall i (by omega)
      · exact ok_some ⟨by rw [b2_f (fun z : AF W n p h set => z k hk (Classical.not_not.mp c))], fr_trans F1 (fr_trans F4 (fr_12 (fr_trans F5 F6)))⟩
    · intro _ g5 ⟨hall, F5⟩
      have hX5 := XM_fr F5 hX4
      show Ok (ev none (d + 5) mm_X5_nobodyIsHeldWithout 57 [.ref 23, .int (nI set), .ref 15, .int (nI n)] [] g5) _
      rw [b_X5_nobodyIsHeldWithout_57, hX5.2.1.1, m_if_neg (nI_nlt (Nat.le_refl _) (by omega))]
      exact ok_some ⟨by rw [b2_t (show AF W n p h set from hall)], fr_trans F1 (fr_trans F4 (fr_12 F5))⟩
theorem m_noHeld {W : mW} {n p : Nat} {h : mH} {g : mG} (hM : MC W n p h g) (d : Nat) : Ok (ev none (d + 7) mm_X12_nobodyHeld 0 [.ref 55, .null] [] g) (fun r g2 => r = some (.int (b2 (∀ i, i < n → ¬ hld W p h (nI i) (h 56 i) (h 55 14)))) ∧ Fr s1 g g2) := by
  have hn : n ≤ 6 := hM.1.1
  rw [b_X12_nobodyHeld_0]
  refine ok_loop (E := fun k (_ : Unit) g => ev none (d + 7) mm_X12_nobodyHeld 2 [.ref 55, .int (nI k)] [] g) (I := fun k _ g5 => (∀ i, i < k → ¬ hld W p h (nI i) (h 56 i) (h 55 14)) ∧ Fr s1 g g5) (P := n) ?_ ?_ 0 () g (by omega) ⟨fun i hi => by omega, fr_refl⟩
  · intro k _ g5 hk ⟨hall, F5⟩ next
    have hM5 := MC_fr (fr_1A F5) hM
    show Ok (ev none (d + 7) mm_X12_nobodyHeld 2 [.ref 55, .int (nI k)] [] g5) _
    rw [b_X12_nobodyHeld_2, MC_n hM5, m_if_pos (nI_lt hk (by omega)), mi_nI (by omega) (by omega), pk_cl k (hx := rfl), (hM5.2.1.2.2.2.2 k).1, hM5.2.1.2.2.2.1]
    refine ok_bnd (m_isHeld hM5 d _ _ _) ?_
    intro r g6 ⟨hr, F6⟩
    subst hr
    rw [mp_some, b_X12_nobodyHeld_25, mi_b2]
    refine ok_if (fun c => ?_) (fun c => ?_)
    · exact ok_some ⟨by rw [b2_f (fun z => z k hk c)], fr_trans F5 F6⟩
    · rw [nI_1]
      refine next () _ ⟨fun i hi => ?_, fr_trans F5 F6⟩
      by_cases e : i = k
      · subst e; exact c
      · exact hall i (by omega)
  · intro _ g5 ⟨hall, F5⟩
    have hM5 := MC_fr (fr_1A F5) hM
    show Ok (ev none (d + 7) mm_X12_nobodyHeld 2 [.ref 55, .int (nI n)] [] g5) _
    rw [b_X12_nobodyHeld_2, MC_n hM5, m_if_neg (nI_nlt (Nat.le_refl _) (by omega))]
    exact ok_some ⟨by rw [b2_t hall], F5⟩
noncomputable def PT (p : Nat) (h : mH) (set : Nat) : Nat := bts p (fun q => h 65 q = 0 ∧ set.testBit (h 59 q).toNatClampNeg = true)
theorem m_promTo {W : mW} {n p : Nat} {h : mH} {g : mG} (hM : MC W n p h g) (d : Nat) (set : Nat) (hs : set < 64) : ev none (d + 1) mm_X12_promisedTo 0 [.ref 55, .int (nI set), .null, .null] [] g = some (some (.int (nI (PT p h set))), g) := by
  have hp : p ≤ 12 := hM.1.2.1
  have hn : n ≤ 6 := hM.1.1
  rw [b_X12_promisedTo_0]
  refine ok_eq (ok_loop (E := fun k (a : Nat) g => ev none (d + 1) mm_X12_promisedTo 4 [.ref 55, .int (nI set), .int (nI a), .int (nI k)] [] g) (I := fun k a g3 => a = bts k (fun q => h 65 q = 0 ∧ set.testBit (h 59 q).toNatClampNeg = true) ∧ g3 = g) (P := p) ?_ ?_ 0 0 g (by omega) ⟨rfl, rfl⟩)
  · intro k a g3 hk ⟨ha, hg⟩ next
    subst hg
    obtain ⟨j, hj, ej⟩ := (hM.1.2.2.2.2.2.1 k hk).2.1
    have ec : (h 59 k).toNatClampNeg = j := by rw [ej, nI_clamp (by omega)]
    show Ok (ev none (d + 1) mm_X12_promisedTo 4 [.ref 55, .int (nI set), .int (nI a), .int (nI k)] [] g3) _
    rw [b_X12_promisedTo_4, MC_p hM, m_if_pos (nI_lt hk (by omega)), mi_nI (i := k) (by omega) (by omega), mi_nI (i := k) (by omega) (by omega), pk_cl k (hx := rfl), (hM.2.1.2.2.2.2 k).2.2.2.2.2.2.2.2.2, (hM.2.1.2.2.2.2 k).2.2.2.1]
    refine ok_if (fun c => ?_) (fun c => ?_)
    · rw [ej, v_has _ _ _ _ (by omega) (by omega), mb_some, mp_some, b_X12_promisedTo_31, mi_b2]
      refine ok_if (fun c2 => ?_) (fun c2 => ?_)
      · rw [t_or1 (by omega), b_X12_promisedTo_40, nI_1]
        exact next _ _ ⟨by rw [bts_t ⟨c, by rw [ec]; exact c2⟩, ha], rfl⟩
      · rw [b_X12_promisedTo_40, nI_1]
        exact next _ _ ⟨by rw [bts_f (fun z => c2 (by rw [← ec]; exact z.2)), ha], rfl⟩
    · rw [b_X12_promisedTo_40, nI_1]
      exact next _ _ ⟨by rw [bts_f (fun z => c z.1), ha], rfl⟩
  · intro a g3 ⟨ha, hg⟩
    subst hg
    show Ok (ev none (d + 1) mm_X12_promisedTo 4 [.ref 55, .int (nI set), .int (nI a), .int (nI p)] [] g3) _
    rw [b_X12_promisedTo_4, MC_p hM, m_if_neg (nI_nlt (Nat.le_refl _) (by omega))]
    exact ok_some ⟨by rw [ha]; rfl, rfl⟩
theorem m_allFree {W : mW} {n p : Nat} {h : mH} {g : mG} (hM : MC W n p h g) (d : Nat) (set : Nat) (hs : set < 64) : Ok (ev none (d + 8) mm_X12_allFree 0 [.ref 55, .int (nI set), .null, .null, .null] [] g) (fun r g2 => r = some (.int (b2 (AF W n p h set))) ∧ Fr s1 g g2) := by
  have hp : p ≤ 12 := hM.1.2.1
  have hn : n ≤ 6 := hM.1.1
  have hT := hM.2.1
  have hS : PT p h set < 4096 := bts_12 hp
  have hSb : ∀ q, (PT p h set).testBit q = true ↔ q < p ∧ h 65 q = 0 ∧ set.testBit (h 59 q).toNatClampNeg = true := fun q => bts_bit q
  rw [b_X12_allFree_0, m_promTo hM _ set hs, mb_some, mp_some, b_X12_allFree_5]
  generalize PT p h set = S at hS hSb
  refine ok_loop (E := fun k (_ : Unit) g' => ev none (d + 8) mm_X12_allFree 8 [.ref 55, .int (nI set), .int (nI S), .int (nI k), .null] [] g') (I := fun k _ g' => g' = mkS S 1 g k) (P := p) ?_ ?_ 0 () g (by omega) mkS_0.symm
  · intro k _ g' hk hg next
    have e4 : g'.1 55 4 = nI p := by rw [hg, mkS_ne (by omega)]; exact MC_p hM
    show Ok (ev none (d + 8) mm_X12_allFree 8 [.ref 55, .int (nI set), .int (nI S), .int (nI k), .null] [] g') _
    rw [b_X12_allFree_8, e4, m_if_pos (nI_lt hk (by omega)), v_has _ _ S k (by omega) (by omega), mb_some, mp_some, b_X12_allFree_21, mi_b2]
    refine ok_if (fun c => ?_) (fun c => ?_)
    · rw [mi_nI (by omega) (by omega), pk_cl k (hx := rfl), hg, mkS_t c, b_X12_allFree_31, nI_1]
      exact next () _ rfl
    · rw [hg, b_X12_allFree_31, nI_1]
      exact next () _ (mkS_f c)
  · intro _ g' hg
    have e4 : g'.1 55 4 = nI p := by rw [hg, mkS_ne (by omega)]; exact MC_p hM
    show Ok (ev none (d + 8) mm_X12_allFree 8 [.ref 55, .int (nI set), .int (nI S), .int (nI p), .null] [] g') _
    rw [b_X12_allFree_8, e4, m_if_neg (nI_nlt (Nat.le_refl _) (by omega))]
    have x1 : ∀ c k, c ≠ 65 → g'.1 c k = g.1 c k := fun c k c1 => by rw [hg, mkS_ne c1]
    have hMA : MC W n p (hA p h set) g' := by
      refine MC_65 hM (Fs_ix hM.1 set) (Fs_0 hM.1 set) x1 (fun k => ?_)
      rw [hg, mkS_r, (hT.2.2.2.2 k).2.2.2.2.2.2.2.2.2]
      unfold Fs
      by_cases c : k < p ∧ set.testBit (h 59 k).toNatClampNeg = true
      · rw [if_pos c]
        by_cases c2 : h 65 k = 0
        · rw [if_pos ⟨c.1, (hSb k).mpr ⟨c.1, c2, c.2⟩⟩]
        · rw [if_neg (fun z => c2 ((hSb k).mp z.2).2.1)]
          rcases ix_2.mpr (hM.1.2.2.2.2.2.2.1 k (by omega)).2 with z | z
          · exact absurd z c2
          · exact z
      · rw [if_neg c, if_neg (fun z => c ⟨z.1, ((hSb k).mp z.2).2.2⟩)]
    refine ok_bnd (m_noHeld hMA d) ?_
    intro r g2 ⟨hr, F2⟩
    subst hr
    rw [mp_some, b_X12_allFree_41]
    show Ok (ev none (d + 8) mm_X12_allFree 45 [.ref 55, .int (nI set), .int (nI S), .int (b2 (AF W n p h set)), .int 0] [] g2) _
    refine ok_loop (E := fun k (_ : Unit) g' => ev none (d + 8) mm_X12_allFree 45 [.ref 55, .int (nI set), .int (nI S), .int (b2 (AF W n p h set)), .int (nI k)] [] g') (I := fun k _ g' => g' = mkS S 0 g2 k) (P := p) ?_ ?_ 0 () g2 (by omega) mkS_0.symm
    · intro k _ g4 hk hg4 next
      have e4' : g4.1 55 4 = nI p := by
        rw [hg4, mkS_ne (by omega), F2.1 55 4 rfl]
        exact e4
      show Ok (ev none (d + 8) mm_X12_allFree 45 [.ref 55, .int (nI set), .int (nI S), .int (b2 (AF W n p h set)), .int (nI k)] [] g4) _
      rw [b_X12_allFree_45, e4', m_if_pos (nI_lt hk (by omega)), v_has _ _ S k (by omega) (by omega), mb_some, mp_some, b_X12_allFree_60, mi_b2]
      refine ok_if (fun c => ?_) (fun c => ?_)
      · rw [mi_nI (by omega) (by omega), pk_cl k (hx := rfl), hg4, mkS_t c, b_X12_allFree_71, nI_1]
        exact next () _ rfl
      · rw [hg4, b_X12_allFree_71, nI_1]
        exact next () _ (mkS_f c)
    · intro _ g4 hg4
      have e4' : g4.1 55 4 = nI p := by
        rw [hg4, mkS_ne (by omega), F2.1 55 4 rfl]
        exact e4
      show Ok (ev none (d + 8) mm_X12_allFree 45 [.ref 55, .int (nI set), .int (nI S), .int (b2 (AF W n p h set)), .int (nI p)] [] g4) _
      rw [b_X12_allFree_45, e4', m_if_neg (nI_nlt (Nat.le_refl _) (by omega)), if_pos (b2_and _)]
      refine ok_some ⟨rfl, fun c k hc => ?_, fun c k hc => ?_⟩
      · by_cases c65 : c = 65
        · subst c65
          rw [hg4, mkS_r]
          by_cases q : k < p ∧ S.testBit k = true
          · rw [if_pos q, (hT.2.2.2.2 k).2.2.2.2.2.2.2.2.2, ((hSb k).mp q.2).2.1]
          · rw [if_neg q, F2.1 65 k rfl, hg, mkS_r, if_neg q]
        · rw [hg4, mkS_ne c65, F2.1 c k hc, x1 _ _ c65]
      · rw [hg4]
        show g2.2 c k = _
        rw [F2.2 c k hc, hg]
        rfl
