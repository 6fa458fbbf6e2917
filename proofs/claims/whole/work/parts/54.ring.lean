/-! OPERATIONS (14): the shortest ring -/
theorem pigeon : ∀ n L (v : Nat → Nat), (∀ i, i < L → v i < n) → n < L → ∃ i j, i < j ∧ j < L ∧ v i = v j := by
  intro n
  induction n with
  | zero => intro L v h1 h2; exact absurd (h1 0 h2) (by omega)
  | succ n ih =>
    intro L v h1 h2
    by_cases c : ∃ i, i < L - 1 ∧ v i = v (L - 1)
    · obtain ⟨i, q1, q2⟩ := c
      exact ⟨i, L - 1, q1, by omega, q2⟩
    · have c' : ∀ i, i < L - 1 → v i ≠ v (L - 1) := fun i hi e => c ⟨i, hi, e⟩
      obtain ⟨i, j, q1, q2, q3⟩ := ih (L - 1) (fun i => if v i = n then v (L - 1) else v i) (fun i hi => by
        have a := c' i hi
        have b := h1 i (by omega)
        have e := h1 (L - 1) (by omega)
        split <;> omega) (by omega)
      refine ⟨i, j, q1, by omega, ?_⟩
      have a := c' i (by omega)
      have b := c' j q2
      split at q3 <;> split at q3 <;> omega
/-- one is held by a promise to the other -/
def ED (W : mW) (p : Nat) (h : mH) (i j : Nat) : Prop := ∃ q, q < p ∧ h 58 q = nI i ∧ (h 60 q = h 56 i ∧ grp W p h (h 55 14) q) ∧ h 59 q = nI j
noncomputable def sT (W : mW) (n p : Nat) (h : mH) (S : Nat) : Nat := bts n (fun j => ∃ i, i < n ∧ S.testBit i = true ∧ ED W p h i j)
noncomputable def rR (W : mW) (n p : Nat) (h : mH) (one : Nat) : Nat → Nat
  | 0 => 2 ^ one
  | l + 1 => sT W n p h (rR W n p h one l)
theorem rR_lt {W : mW} {n p : Nat} {h : mH} {one : Nat} (h1 : one < n) (hn : n ≤ 6) (l : Nat) : rR W n p h one l < 64 := by
  have : rR W n p h one l < 2 ^ n := by
    cases l with
    | zero => exact Nat.pow_lt_pow_right (by omega) h1
    | succ l => exact bts_lt
  have h2 : 2 ^ n ≤ 2 ^ 6 := Nat.pow_le_pow_right (by omega) hn
  omega
theorem rR_walk {W : mW} {n p : Nat} {h : mH} {one : Nat} (h1 : one < n) : ∀ l b, (rR W n p h one l).testBit b = true → ∃ v : Nat → Nat, v 0 = one ∧ v l = b ∧ (∀ i, i ≤ l → v i < n) ∧ ∀ i, i < l → ED W p h (v i) (v (i + 1)) := by
  intro l
  induction l with
  | zero =>
    intro b hb
    rw [show rR W n p h one 0 = 2 ^ one from rfl, t_tb2, decide_eq_true_eq] at hb
    exact ⟨fun _ => one, rfl, hb, fun _ _ => h1, fun i hi => by omega⟩
  | succ l ih =>
    intro b hb
    obtain ⟨hbn, i, hi, q1, q2⟩ := (bts_bit b).mp hb
    obtain ⟨v, v1, v2, v3, v4⟩ := ih i q1
    refine ⟨fun k => if k ≤ l then v k else b, ?_, ?_, fun k hk => ?_, fun k hk => ?_⟩
    · dsimp only
      rw [if_pos (Nat.zero_le _)]
      exact v1
    · dsimp only
      rw [if_neg (by omega)]
    · dsimp only
      split
      · exact v3 k (by assumption)
      · exact hbn
    · dsimp only
      rw [if_pos (show k ≤ l by omega)]
      by_cases c : k = l
      · subst c
        rw [if_neg (by omega), v2]
        exact q2
      · rw [if_pos (show k + 1 ≤ l by omega)]
        exact v4 k (by omega)
theorem walk_rR {W : mW} {n p : Nat} {h : mH} {v : Nat → Nat} {s : Nat} : ∀ l, (∀ i, i ≤ s + l → v i < n) → (∀ i, i < s + l → ED W p h (v i) (v (i + 1))) → (rR W n p h (v s) l).testBit (v (s + l)) = true := by
  intro l
  induction l with
  | zero =>
    intro _ _
    rw [show rR W n p h (v s) 0 = 2 ^ v s from rfl, t_tb2]
    exact decide_eq_true rfl
  | succ l ih =>
    intro a1 a2
    refine (bts_bit _).mpr ⟨a1 _ (Nat.le_refl _), v (s + l), a1 _ (by omega), ih (fun i hi => a1 i (by omega)) (fun i hi => a2 i (by omega)), ?_⟩
    exact a2 (s + l) (by omega)
/-- the shortest of all rings has no more links than there are people -/
theorem ring_n {W : mW} {n p : Nat} {h : mH} {one s : Nat} (h1 : one < n) (hs : 1 ≤ s) (hr : (rR W n p h one s).testBit one = true) (hm : ∀ o l, o < n → 1 ≤ l → l < s → ¬ (rR W n p h o l).testBit o = true) : s ≤ n := by
  refine Decidable.byContradiction (fun c => ?_)
  obtain ⟨v, v1, v2, v3, v4⟩ := rR_walk h1 s one hr
  obtain ⟨i, j, q1, q2, q3⟩ := pigeon n s v (fun i hi => v3 i (by omega)) (by omega)
  have := walk_rR (W := W) (p := p) (h := h) (v := v) (s := i) (j - i) (fun k hk => v3 k (by omega)) (fun k hk => v4 k (by omega))
  rw [show i + (j - i) = j by omega, ← q3] at this
  exact hm (v i) (j - i) (v3 i (by omega)) (by omega) (by omega) this
theorem m_toward {W : mW} {n p : Nat} {h : mH} {g : mG} (hM : MC W n p h g) (d : Nat) (S : Nat) (hS : S < 64) : Ok (ev none (d + 5) mm_X12_heldToward 0 [.ref 55, .int (nI S), .null, .null] [] g) (fun r g2 => r = some (.int (nI (sT W n p h S))) ∧ Fr s1 g g2) := by
  have hp : p ≤ 12 := hM.1.2.1
  have hn : n ≤ 6 := hM.1.1
  rw [b_X12_heldToward_0]
  refine ok_loop (E := fun k (a : Nat) g => ev none (d + 5) mm_X12_heldToward 4 [.ref 55, .int (nI S), .int (nI a), .int (nI k)] [] g) (I := fun k a g3 => (∀ j, a.testBit j = true ↔ (j < n ∧ ∃ q, q < k ∧ ∃ i, i < n ∧ S.testBit i = true ∧ h 58 q = nI i ∧ (h 60 q = h 56 i ∧ grp W p h (h 55 14) q) ∧ h 59 q = nI j)) ∧ Fr s1 g g3) (P := p) ?_ ?_ 0 0 g (by omega) ⟨fun j => ⟨fun z => by rw [Nat.zero_testBit] at z; exact absurd z (by decide), fun ⟨_, q, hq, _⟩ => by omega⟩, fr_refl⟩
  · intro k a g3 hk ⟨ha, hg⟩ next
    have hM3 := MC_fr (fr_1A hg) hM
    obtain ⟨i, hi, ei⟩ := (hM.1.2.2.2.2.2.1 k hk).1
    obtain ⟨j, hj, ej⟩ := (hM.1.2.2.2.2.2.1 k hk).2.1
    have stay : ∀ g4, Fr s1 g g4 → ¬ (S.testBit i = true ∧ h 60 k = h 56 i ∧ grp W p h (h 55 14) k) → Ok (ev none (d + 5) mm_X12_heldToward 59 [.ref 55, .int (nI S), .int (nI a), .int (nI k)] [] g4) (fun r g2 => r = some (.int (nI (sT W n p h S))) ∧ Fr s1 g g2) := by
      intro g4 F4 c
      rw [b_X12_heldToward_59, nI_1]
      refine next a g4 ⟨fun j' => (ha j').trans ⟨fun ⟨z1, q, z2, z3⟩ => ⟨z1, q, by omega, z3⟩, fun ⟨z1, q, z2, i', z3, z4, z5, z6, z7⟩ => ⟨z1, q, ?_, i', z3, z4, z5, z6, z7⟩⟩, F4⟩
      have : q ≠ k := fun e => by
        subst e
        rw [ei] at z5
        have := (nI_eq (by omega) (by omega)).mp z5
        subst this
        exact c ⟨z4, z6⟩
      omega
    show Ok (ev none (d + 5) mm_X12_heldToward 4 [.ref 55, .int (nI S), .int (nI a), .int (nI k)] [] g3) _
    rw [b_X12_heldToward_4, MC_p hM3, m_if_pos (nI_lt hk (by omega)), mi_nI (i := k) (by omega) (by omega), pk_cl k (hx := rfl), (hM3.2.1.2.2.2.2 k).2.2.1, ei, v_has _ _ _ _ (by omega) (by omega), mb_some, mp_some, b_X12_heldToward_22, mi_b2]
    refine ok_if (fun c => ?_) (fun c => stay g3 hg (fun z => c z.1))
    rw [mi_nI (i := k) (by omega) (by omega), pk_cl k (hx := rfl), (hM3.2.1.2.2.2.2 k).2.2.1, ei, mi_nI (i := i) (by omega) (by omega), pk_cl i (hx := rfl), (hM3.2.1.2.2.2.2 i).1, hM3.2.1.2.2.2.1]
    refine ok_bnd (m_holdsAt hM3 d k hk _ _) ?_
    intro r g4 ⟨hr, F4⟩
    subst hr
    have hg4 := fr_trans hg F4
    have hM4 := MC_fr (fr_1A hg4) hM
    rw [mp_some, b_X12_heldToward_45, mi_b2]
    refine ok_if (fun c2 => ?_) (fun c2 => stay g4 hg4 (fun z => c2 z.2))
    rw [mi_nI (i := k) (by omega) (by omega), pk_cl k (hx := rfl), (hM4.2.1.2.2.2.2 k).2.2.2.1, ej, t_or1 (by omega), b_X12_heldToward_59, nI_1]
    refine next _ g4 ⟨fun j' => ?_, hg4⟩
    rw [Nat.testBit_or, Bool.or_eq_true, t_tb2, decide_eq_true_eq, ha j']
    constructor
    · rintro (⟨z1, q, z2, z3⟩ | e)
      · exact ⟨z1, q, by omega, z3⟩
      · subst e
        exact ⟨hj, k, by omega, i, hi, c, ei, c2, ej⟩
    · intro ⟨z1, q, z2, i', z3, z4, z5, z6, z7⟩
      by_cases e : q = k
      · subst e
        rw [ej] at z7
        exact Or.inr ((nI_eq (by omega) (by omega)).mp z7)
      · exact Or.inl ⟨z1, q, by omega, i', z3, z4, z5, z6, z7⟩
  · intro a g3 ⟨ha, hg⟩
    have hM3 := MC_fr (fr_1A hg) hM
    show Ok (ev none (d + 5) mm_X12_heldToward 4 [.ref 55, .int (nI S), .int (nI a), .int (nI p)] [] g3) _
    rw [b_X12_heldToward_4, MC_p hM3, m_if_neg (nI_nlt (Nat.le_refl _) (by omega))]
    refine ok_some ⟨?_, hg⟩
    have : a = sT W n p h S := nat_ext (fun j => by
      unfold sT
      rw [ha j, bts_bit]
      exact ⟨fun ⟨z1, q, z2, i, z3, z4, z5, z6, z7⟩ => ⟨z1, i, z3, z4, q, z2, z5, z6, z7⟩, fun ⟨z1, i, z3, z4, q, z2, z5, z6, z7⟩ => ⟨z1, q, z2, i, z3, z4, z5, z6, z7⟩⟩)
    rw [this]
/-- the length found -/
def RM (W : mW) (n p : Nat) (h : mH) (k : Nat) (o : Option Nat) : Prop := match o with
  | none => ∀ one l, one < k → 1 ≤ l → l ≤ n → ¬ (rR W n p h one l).testBit one = true
  | some m => (1 ≤ m ∧ m ≤ n ∧ ∃ one, one < n ∧ (rR W n p h one m).testBit one = true) ∧ ∀ one l, one < k → 1 ≤ l → l ≤ n → (rR W n p h one l).testBit one = true → m ≤ l
theorem m_ring {W : mW} {n p : Nat} {h : mH} {g : mG} (hM : MC W n p h g) (d : Nat) : Ok (ev none (d + 6) mm_X12_ring 0 [.ref 55, .null, .null, .null, .null] [] g) (fun r g2 => Fr s1 g g2 ∧ ∃ o, r = some (.int (oI o)) ∧ RM W n p h n o) := by
  have hn : n ≤ 6 := hM.1.1
  rw [b_X12_ring_0]
  refine ok_loop (E := fun k (a : Option Nat × Value × Value) g => ev none (d + 6) mm_X12_ring 5 [.ref 55, .int (oI a.1), .int (nI k), a.2.1, a.2.2] [] g) (I := fun k a g3 => RM W n p h k a.1 ∧ Fr s1 g g3) (P := n) ?_ ?_ 0 (none, .null, .null) g (by omega) ⟨fun _ _ z => by omega, fr_refl⟩
  · intro k ⟨o, w1, w2⟩ g3 hk ⟨hR, hg⟩ next
    dsimp only at hR
    have hM3 := MC_fr (fr_1A hg) hM
    show Ok (ev none (d + 6) mm_X12_ring 5 [.ref 55, .int (oI o), .int (nI k), w1, w2] [] g3) _
    rw [b_X12_ring_5, MC_n hM3, m_if_pos (nI_lt hk (by omega)), t_sh1 _ (by omega)]
    have nxt : ∀ o' g4 a1 a2, Fr s1 g g4 → RM W n p h (k + 1) o' → Ok (ev none (d + 6) mm_X12_ring 5 [.ref 55, .int (oI o'), .int (nI k + 1), a1, a2] [] g4) (fun r g2 => Fr s1 g g2 ∧ ∃ o, r = some (.int (oI o)) ∧ RM W n p h n o) := by
      intro o' g4 a1 a2 F4 hR4
      rw [nI_1]
      exact next (o', a1, a2) g4 ⟨hR4, F4⟩
    refine ok_loop (E := fun l (_ : Unit) g => ev none (d + 6) mm_X12_ring 20 [.ref 55, .int (oI o), .int (nI k), .int (nI (rR W n p h k (l - 1))), .int (nI l)] [] g) (I := fun l _ g4 => 1 ≤ l ∧ (∀ m, 1 ≤ m → m < l → ¬ (rR W n p h k m).testBit k = true) ∧ Fr s1 g g4) (P := n + 1) ?_ ?_ 1 () g3 (by omega) ⟨Nat.le_refl _, fun m _ _ => by omega, hg⟩
    · intro l _ g4 hl ⟨l1, hno, F4⟩ next2
      have hM4 := MC_fr (fr_1A F4) hM
      show Ok (ev none (d + 6) mm_X12_ring 20 [.ref 55, .int (oI o), .int (nI k), .int (nI (rR W n p h k (l - 1))), .int (nI l)] [] g4) _
      rw [b_X12_ring_20, MC_n hM4, m_if_neg (nI_nlt (by omega) (by omega))]
      refine ok_bnd (m_toward hM4 d _ (rR_lt hk hn _)) ?_
      intro r g5 ⟨hr, F5⟩
      subst hr
      have hg5 := fr_trans F4 F5
      have hM5 := MC_fr (fr_1A hg5) hM
      have er : sT W n p h (rR W n p h k (l - 1)) = rR W n p h k l := by
        have : l = (l - 1) + 1 := by omega
        rw [this]
        rfl
      have hlt := rR_lt (W := W) (p := p) (h := h) hk hn l
      rw [mp_some, b_X12_ring_34, er, v_has _ _ _ _ (by omega) (by omega), mb_some, mp_some, b_X12_ring_40, mi_b2]
      refine ok_if (fun c => ?_) (fun c => ?_)
      · have fin : ∀ o', RM W n p h (k + 1) o' → Ok (ev none (d + 6) mm_X12_ring 59 [.ref 55, .int (oI o'), .int (nI k), .int (nI (rR W n p h k l)), .int (nI l)] [] g5) (fun r g2 => Fr s1 g g2 ∧ ∃ o, r = some (.int (oI o)) ∧ RM W n p h n o) := by
          intro o' hR'
          rw [b_X12_ring_59, MC_n hM5, b_X12_ring_65, nI_1, b_X12_ring_20, MC_n hM5, m_if_pos (nI_lt (by omega) (by omega))]
          exact nxt o' g5 _ _ hg5 hR'
        have take : (∀ m, o = some m → l < m) → Ok (ev none (d + 6) mm_X12_ring 56 [.ref 55, .int (oI o), .int (nI k), .int (nI (rR W n p h k l)), .int (nI l)] [] g5) (fun r g2 => Fr s1 g g2 ∧ ∃ o, r = some (.int (oI o)) ∧ RM W n p h n o) := by
          intro hlm
          rw [b_X12_ring_56]
          refine fin (some l) ⟨⟨l1, by omega, k, hk, c⟩, fun one l' z1 z2 z3 z4 => ?_⟩
          by_cases e : one = k
          · subst e
            refine Decidable.byContradiction (fun y => hno l' z2 (by omega) z4)
          · cases o with
            | none => exact absurd z4 (hR one l' (by omega) z2 z3)
            | some m =>
              have := hR.2 one l' (by omega) z2 z3 z4
              have := hlm m rfl
              omega
        cases o with
        | none =>
          rw [m_if_pos (show oI none < 0 by decide)]
          exact take (fun m hm => by cases hm)
        | some m =>
          have hmn := hR.1.2.1
          rw [m_if_neg (show ¬ oI (some m) < 0 from nI_pos (by omega)), show oI (some m) = nI m from rfl, mi_c (nI_ltI (by omega) (by omega))]
          refine ok_if (fun c2 => take (fun m' hm => by cases hm; exact c2)) (fun c2 => ?_)
          refine fin (some m) ⟨hR.1, fun one l' z1 z2 z3 z4 => ?_⟩
          by_cases e : one = k
          · subst e
            have : ¬ l' < l := fun y => hno l' z2 y z4
            omega
          · exact hR.2 one l' (by omega) z2 z3 z4
      · rw [b_X12_ring_65, nI_1]
        refine next2 () g5 ⟨by omega, fun m z1 z2 => ?_, hg5⟩
        by_cases e : m = l
        · subst e; exact c
        · exact hno m z1 (by omega)
    · intro _ g4 ⟨l1, hno, F4⟩
      have hM4 := MC_fr (fr_1A F4) hM
      show Ok (ev none (d + 6) mm_X12_ring 20 [.ref 55, .int (oI o), .int (nI k), .int (nI (rR W n p h k (n + 1 - 1))), .int (nI (n + 1))] [] g4) _
      rw [b_X12_ring_20, MC_n hM4, m_if_pos (nI_lt (by omega) (by omega))]
      refine nxt o g4 _ _ F4 ?_
      cases o with
      | none =>
        intro one l z1 z2 z3
        by_cases e : one = k
        · subst e; exact hno l z2 (by omega)
        · exact hR one l (by omega) z2 z3
      | some m =>
        refine ⟨hR.1, fun one l' z1 z2 z3 z4 => ?_⟩
        by_cases e : one = k
        · subst e; exact absurd z4 (hno l' z2 (by omega))
        · exact hR.2 one l' (by omega) z2 z3 z4
  · intro ⟨o, w1, w2⟩ g3 ⟨hR, hg⟩
    have hM3 := MC_fr (fr_1A hg) hM
    show Ok (ev none (d + 6) mm_X12_ring 5 [.ref 55, .int (oI o), .int (nI n), w1, w2] [] g3) _
    rw [b_X12_ring_5, MC_n hM3, m_if_neg (nI_nlt (Nat.le_refl _) (by omega))]
    exact ok_some ⟨hg, o, rfl, hR⟩
theorem x_nextRing {W : mW} {n p : Nat} {h : mH} {g : mG} (hX : XR W n p h g) (hH : ∀ i, i < n → g.1 25 i = nI (bts n (ED W p h i))) (d : Nat) (S : Nat) (hS : S < 64) : ev none (d + 1) mm_X5_nextInRing 0 [.ref 23, .int (nI S), .null, .null] [] g = some (some (.int (nI (sT W n p h S))), g) := by
  have hn : n ≤ 6 := hX.1.1
  rw [b_X5_nextInRing_0]
  refine ok_eq (ok_loop (E := fun k (a : Nat) g => ev none (d + 1) mm_X5_nextInRing 4 [.ref 23, .int (nI S), .int (nI a), .int (nI k)] [] g) (I := fun k a g3 => (∀ j, a.testBit j = true ↔ (j < n ∧ ∃ i, i < k ∧ S.testBit i = true ∧ ED W p h i j)) ∧ g3 = g) (P := n) ?_ ?_ 0 0 g (by omega) ⟨fun j => ⟨fun z => by rw [Nat.zero_testBit] at z; exact absurd z (by decide), fun ⟨_, q, hq, _⟩ => by omega⟩, rfl⟩)
  · intro k a g3 hk ⟨ha, hg⟩ next
    subst hg
    show Ok (ev none (d + 1) mm_X5_nextInRing 4 [.ref 23, .int (nI S), .int (nI a), .int (nI k)] [] g3) _
    rw [b_X5_nextInRing_4, hX.2.1.1, m_if_pos (nI_lt hk (by omega)), v_hasBit _ _ _ _ (by omega) (by omega), mb_some, mp_some, b_X5_nextInRing_20, mi_b2]
    refine ok_if (fun c => ?_) (fun c => ?_)
    · rw [mi_nI (by omega) (by omega), pk_cl k (hx := rfl), hH k hk, t_or, b_X5_nextInRing_32, nI_1]
      refine next _ _ ⟨fun j => ?_, rfl⟩
      rw [Nat.testBit_or, Bool.or_eq_true, ha j, bts_bit]
      constructor
      · rintro (⟨z1, i, z2, z3⟩ | ⟨z1, z2⟩)
        · exact ⟨z1, i, by omega, z3⟩
        · exact ⟨z1, k, by omega, c, z2⟩
      · intro ⟨z1, i, z2, z3, z4⟩
        by_cases e : i = k
        · subst e; exact Or.inr ⟨z1, z4⟩
        · exact Or.inl ⟨z1, i, by omega, z3, z4⟩
    · rw [b_X5_nextInRing_32, nI_1]
      refine next _ _ ⟨fun j => (ha j).trans ⟨fun ⟨z1, i, z2, z3⟩ => ⟨z1, i, by omega, z3⟩, fun ⟨z1, i, z2, z3, z4⟩ => ⟨z1, i, ?_, z3, z4⟩⟩, rfl⟩
      have : i ≠ k := fun e => by subst e; exact c z3
      omega
  · intro a g3 ⟨ha, hg⟩
    subst hg
    show Ok (ev none (d + 1) mm_X5_nextInRing 4 [.ref 23, .int (nI S), .int (nI a), .int (nI n)] [] g3) _
    rw [b_X5_nextInRing_4, hX.2.1.1, m_if_neg (nI_nlt (Nat.le_refl _) (by omega))]
    have : a = sT W n p h S := nat_ext (fun j => by
      unfold sT
      rw [ha j, bts_bit])
    exact ok_some ⟨by rw [this], rfl⟩
theorem ED_1 {W : mW} {n p : Nat} {h : mH} {one : Nat} (h1 : one < n) : bts n (ED W p h one) = rR W n p h one 1 := by
  refine bts_c (fun j hj => ⟨fun z => ⟨one, h1, ?_, z⟩, fun ⟨i, hi, z1, z2⟩ => ?_⟩)
  · rw [show rR W n p h one 0 = 2 ^ one from rfl, t_tb2]
    exact decide_eq_true rfl
  · rw [show rR W n p h one 0 = 2 ^ one from rfl, t_tb2, decide_eq_true_eq] at z1
    rw [z1]
    exact z2
theorem PPk_ED {W : mW} {n p : Nat} {h : mH} {one : Nat} : PPk n p h (bts p (grA W p h (nI one) (h 56 one) (h 55 14))) = bts n (ED W p h one) := by
  refine bts_c (fun j hj => ?_)
  constructor
  · intro ⟨q, z1, z2, z3⟩
    obtain ⟨_, a, b, c⟩ := (bts_bit q).mp z2
    exact ⟨q, z1, a, ⟨b, c⟩, z3⟩
  · intro ⟨q, z1, a, ⟨b, c⟩, z3⟩
    exact ⟨q, z1, (bts_bit q).mpr ⟨z1, a, b, c⟩, z3⟩
/-- the class's shortest -/
def RgX (W : mW) (n p : Nat) (h : mH) (k s : Nat) : Prop := (1 ≤ s ∧ s ≤ 7 ∧ (s < 7 → ∃ one, one < n ∧ (rR W n p h one s).testBit one = true)) ∧ ∀ one l, one < k → 1 ≤ l → l < s → ¬ (rR W n p h one l).testBit one = true
theorem x_ring {W : mW} {n p : Nat} {h : mH} {g : mG} (hX : XR W n p h g) (d : Nat) : Ok (ev none (d + 6) mm_X5_shortestRing 0 [.ref 23, .null, .null, .null, .null] [] g) (fun r g2 => Fr sA g g2 ∧ ∃ s, r = some (.int (if 6 < s then -2 else nI s)) ∧ RgX W n p h n s) := by
  have hn : n ≤ 6 := hX.1.1
  have hp : p ≤ 12 := hX.1.2.1
  rw [b_X5_shortestRing_0]
  refine ok_loop (E := fun k (_ : Unit) g => ev none (d + 6) mm_X5_shortestRing 2 [.ref 23, .int (nI k), .null, .null, .null] [] g) (I := fun k _ g3 => (∀ i, i < k → g3.1 25 i = nI (bts n (ED W p h i))) ∧ Fr sA g g3) (P := n) ?_ ?_ 0 () g (by omega) ⟨fun _ z => by omega, fr_refl⟩
  · intro k _ g3 hk ⟨hH, hg⟩ next
    have hX3 := XR_fr hg hX
    show Ok (ev none (d + 6) mm_X5_shortestRing 2 [.ref 23, .int (nI k), .null, .null, .null] [] g3) _
    rw [b_X5_shortestRing_2, hX3.2.1.1, m_if_pos (nI_lt hk (by omega))]
    refine ok_bnd (x_gripsNow hX3 d k hk) ?_
    intro r g4 ⟨hr, F4⟩
    subst hr
    have hg4 := fr_trans hg (fr_2A F4)
    have hX4 := XR_fr hg4 hX
    rw [mp_some, b_X5_shortestRing_27, x_peopleOf hX4 _ _ (bts_12 hp), mb_some, mp_some, b_X5_shortestRing_30, mi_nI (by omega) (by omega), pk_cl k (hx := rfl), nI_1, PPk_ED]
    refine next () _ ⟨fun i hi => ?_, fr_s1 hg4 rfl⟩
    by_cases e : i = k
    · subst e; rw [s1_at]
    · rw [s1_same e, F4.1 25 i rfl]
      exact hH i (by omega)
  · intro _ g3 ⟨hH, hg⟩
    have hX3 := XR_fr hg hX
    show Ok (ev none (d + 6) mm_X5_shortestRing 2 [.ref 23, .int (nI n), .null, .null, .null] [] g3) _
    rw [b_X5_shortestRing_2, hX3.2.1.1, m_if_neg (nI_nlt (Nat.le_refl _) (by omega))]
    refine ok_loop (E := fun k (a : Nat × Value × Value) g => ev none (d + 6) mm_X5_shortestRing 42 [.ref 23, .int (nI a.1), .int (nI k), a.2.1, a.2.2] [] g) (I := fun k a g4 => RgX W n p h k a.1 ∧ g4 = g3) (P := n) ?_ ?_ 0 (7, .null, .null) g3 (by omega) ⟨⟨⟨by omega, by omega, fun z => by omega⟩, fun _ _ z => by omega⟩, rfl⟩
    · intro k ⟨s, w1, w2⟩ g4 hk ⟨hR, hg4⟩ next
      dsimp only at hR
      subst hg4
      show Ok (ev none (d + 6) mm_X5_shortestRing 42 [.ref 23, .int (nI s), .int (nI k), w1, w2] [] g4) _
      obtain ⟨⟨r1, r2, r3⟩, r4⟩ := hR
      rw [b_X5_shortestRing_42, hX3.2.1.1, m_if_pos (nI_lt hk (by omega)), mi_nI (by omega) (by omega), pk_cl k (hx := rfl), hH k hk, ED_1 hk]
      have nxt : ∀ s' a1 a2, RgX W n p h (k + 1) s' → Ok (ev none (d + 6) mm_X5_shortestRing 42 [.ref 23, .int (nI s'), .int (nI k + 1), a1, a2] [] g4) (fun r g2 => Fr sA g g2 ∧ ∃ s, r = some (.int (if 6 < s then -2 else nI s)) ∧ RgX W n p h n s) := by
        intro s' a1 a2 hR'
        rw [nI_1]
        exact next (s', a1, a2) g4 ⟨hR', rfl⟩
      refine ok_loop (E := fun l (_ : Unit) g => ev none (d + 6) mm_X5_shortestRing 63 [.ref 23, .int (nI s), .int (nI k), .int (nI (rR W n p h k l)), .int (nI l)] [] g) (I := fun l _ g5 => 1 ≤ l ∧ (∀ m, 1 ≤ m → m < l → ¬ (rR W n p h k m).testBit k = true) ∧ g5 = g4) (P := s) ?_ ?_ 1 () g4 (by omega) ⟨Nat.le_refl _, fun m _ _ => by omega, rfl⟩
      · intro l _ g5 hl ⟨l1, hno, hg5⟩ next2
        subst hg5
        have hlt := rR_lt (W := W) (p := p) (h := h) hk hn l
        have hst : sT W n p h (rR W n p h k l) = rR W n p h k (l + 1) := rfl
        show Ok (ev none (d + 6) mm_X5_shortestRing 63 [.ref 23, .int (nI s), .int (nI k), .int (nI (rR W n p h k l)), .int (nI l)] [] g5) _
        rw [b_X5_shortestRing_63, m_if_pos (nI_lt (by omega) (by omega)), v_hasBit _ _ _ _ (by omega) (by omega), mb_some, mp_some, b_X5_shortestRing_74, mi_b2]
        refine ok_if (fun c => ?_) (fun c => ?_)
        · rw [b_X5_shortestRing_80, x_nextRing hX3 hH _ _ hlt, mb_some, mp_some, b_X5_shortestRing_85, nI_1, b_X5_shortestRing_63, m_if_neg (nI_nlt (by omega) (by omega))]
          refine nxt l _ _ ⟨⟨l1, by omega, fun _ => ⟨k, hk, c⟩⟩, fun one l' z1 z2 z3 => ?_⟩
          by_cases e : one = k
          · subst e; exact hno l' z2 z3
          · exact r4 one l' (by omega) z2 (by omega)
        · rw [b_X5_shortestRing_80, x_nextRing hX3 hH _ _ hlt, mb_some, mp_some, b_X5_shortestRing_85, nI_1, hst]
          refine next2 () _ ⟨by omega, fun m z1 z2 => ?_, rfl⟩
          by_cases e : m = l
          · subst e; exact c
          · exact hno m z1 (by omega)
      · intro _ g5 ⟨l1, hno, hg5⟩
        subst hg5
        show Ok (ev none (d + 6) mm_X5_shortestRing 63 [.ref 23, .int (nI s), .int (nI k), .int (nI (rR W n p h k s)), .int (nI s)] [] g5) _
        rw [b_X5_shortestRing_63, m_if_neg (nI_nlt (Nat.le_refl _) (by omega))]
        refine nxt s _ _ ⟨⟨r1, r2, r3⟩, fun one l' z1 z2 z3 => ?_⟩
        by_cases e : one = k
        · subst e; exact hno l' z2 z3
        · exact r4 one l' (by omega) z2 (by omega)
    · intro ⟨s, w1, w2⟩ g4 ⟨hR, hg4⟩
      dsimp only at hR
      subst hg4
      have hs7 := hR.1.2.1
      show Ok (ev none (d + 6) mm_X5_shortestRing 42 [.ref 23, .int (nI s), .int (nI n), w1, w2] [] g4) _
      rw [b_X5_shortestRing_42, hX3.2.1.1, m_if_neg (nI_nlt (Nat.le_refl _) (by omega)), show (6 : Int32) = nI 6 from rfl, mi_c (nI_ltI (by omega) (by omega))]
      refine ok_if (fun c => ?_) (fun c => ?_)
      · exact ok_some ⟨hg, s, by rw [if_pos c], hR⟩
      · exact ok_some ⟨hg, s, by rw [if_neg c], hR⟩
theorem o_ring : op_ring Inv 1299 := by
  intro g hI _
  obtain ⟨n, p, W, hX, hM⟩ := inv_C hI
  have hn : n ≤ 6 := hX.1.1
  obtain ⟨r, g1, e1, F1, s, hr, hR⟩ := x_ring hX 1292
  subst hr
  obtain ⟨r2, g2, e2, F2, o, hr2, hB⟩ := m_ring (MC_fr F1 hM) 1293
  subst hr2
  have e1' : ev none 1298 mm_X5_shortestRing 0 [.ref 23, .null, .null, .null, .null] [] g = some (some (.int (if 6 < s then -2 else nI s)), g1) := e1
  have key : (if 6 < s then (-2 : Int32) else nI s) = oI o := by
    obtain ⟨⟨r1, r2, r3⟩, r4⟩ := hR
    cases o with
    | none =>
      have : ¬ s < 7 := fun c => by
        obtain ⟨one, z1, z2⟩ := r3 c
        exact hB one s z1 r1 (ring_n z1 r1 z2 (fun o l a b c => r4 o l a b c)) z2
      rw [if_pos (by omega)]
      rfl
    | some m =>
      obtain ⟨⟨m1, m2, one, m3, m4⟩, m5⟩ := hB
      have hsm : ¬ m < s := fun c => r4 one m m3 m1 c m4
      obtain ⟨o2, z1, z2⟩ := r3 (by omega)
      have := m5 o2 s z1 r1 (by omega) z2
      rw [if_neg (by omega), show s = m by omega]
      rfl
  refine ⟨oI o, g1, g2, ?_, e2, inv_fr (fr_1A F2) (inv_fr F1 hI)⟩
  rw [b_X11_ring_0, e1', mb_some, mp_some, b_X11_ring_7, key]
