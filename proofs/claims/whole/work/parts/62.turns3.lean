/-! OPERATIONS (22): by turns, the class plays -/
/-- where the man is held, by how often the child forgot -/
def TB (W : mW) (p : Nat) (h : mH) (man child goal : Nat) (g : mG) : Prop := g.1 19 6 = nI goal ∧ g.1 19 7 = nI (if cnt p (tfp h child) < 2 then cnt p (tfp h child) else 2) ∧ ∀ t d, t ≤ cnt p (tfp h child) → t ≤ d → d < 3 → g.1 20 (3 * t + d) = nI (gpl W p (rep h 64 (FT p h child t)) (nI man) (dy (h 55 14) (nI d)))
theorem x_heldT {W : mW} {p : Nat} {h : mH} {man child goal : Nat} {g : mG} (hT : TB W p h man child goal g) (d0 : Nat) (w d t : Nat) (hw : w < 25) (h1 : t ≤ cnt p (tfp h child)) (h2 : t ≤ d) (h3 : d < 3) : ev none (d0 + 1) mm_X10_isHeld 0 [.ref 19, .int (nI w), .int (nI (3 * t + d))] [] g = some (some (.int (b2 (HT W p h man child t d w))), g) := by
  have hlt : gpl W p (rep h 64 (FT p h child t)) (nI man) (dy (h 55 14) (nI d)) < 2 ^ 25 := bts_lt
  rw [b_X10_isHeld_0, m_if_neg (nI_pos (by omega)), show (41 : Int32) = nI 41 from rfl, m_if_pos (nI_lt (by omega) (by omega)), mi_nI (by omega) (by omega), pk_cl (3 * t + d) (hx := rfl), hT.2.2 t d h1 h2 h3, v_hasBit _ _ _ _ (by omega) (by omega), mb_some, mp_some, b_X10_isHeld_23, mi_b2, mi_tt]
  refine congrArg (fun z => some (some (Value.int z), g)) (b2_c ?_)
  exact (bts_bit w).trans ⟨fun z => z.2, fun z => ⟨hw, z⟩⟩
theorem mn_i {a b : Nat} (ha : a < 100) (hb : b < 100) : (if nI a < nI b then nI a else nI b) = nI (if a < b then a else b) := by
  by_cases c : a < b
  · rw [if_pos c, if_pos ((nI_ltI (by omega) (by omega)).mpr c)]
  · rw [if_neg c, if_neg (fun z => c ((nI_ltI (by omega) (by omega)).mp z))]
theorem mx_i {a b : Nat} (ha : a < 100) (hb : b < 100) : (if nI a < nI b then nI b else nI a) = nI (if a < b then b else a) := by
  by_cases c : a < b
  · rw [if_pos c, if_pos ((nI_ltI (by omega) (by omega)).mpr c)]
  · rw [if_neg c, if_neg (fun z => c ((nI_ltI (by omega) (by omega)).mp z))]
theorem x_game {W : mW} {p : Nat} {h : mH} {man child goal : Nat} (hgo : goal < 25) {g : mG} (hT : TB W p h man child goal g) : ∀ l, l ≤ 5 → (∀ w d t D, w < 25 → 3 * l + 5 ≤ D → l + 2 * d ≤ 5 → t ≤ d → t ≤ cnt p (tfp h child) → ev none D mm_X10_mansDeed 0 [.ref 19, .int (nI w), .int (nI d), .int (nI t), .int (nI l), .null, .null] [] g = some (some (.int (nI (gV (HT W p h man child) goal (cnt p (tfp h child)) l true w d t))), g)) ∧ (∀ w d t D, w < 25 → 3 * l + 5 ≤ D → l + 2 * d ≤ 6 → t + 1 ≤ d → t ≤ cnt p (tfp h child) → ev none D mm_X10_childsDeed 0 [.ref 19, .int (nI w), .int (nI d), .int (nI t), .int (nI l), .null] [] g = some (some (.int (nI (gV (HT W p h man child) goal (cnt p (tfp h child)) l false w d t))), g)) := by
  intro l
  induction l with
  | zero =>
    intro _
    constructor
    · intro w d t D hw hD _ _ _
      obtain ⟨d', rfl⟩ : ∃ d, D = (d + 1) + 1 := ⟨D - 2, by omega⟩
      rw [b_X10_mansDeed_0, m_if_neg (by decide), hT.1, v_distance _ _ w hw goal hgo, mb_some, mp_some, b_X10_mansDeed_13]
      rfl
    · intro w d t D hw hD _ _ _
      obtain ⟨d', rfl⟩ : ∃ d, D = (d + 1) + 1 := ⟨D - 2, by omega⟩
      rw [b_X10_childsDeed_0, m_if_neg (by decide), hT.1, v_distance _ _ w hw goal hgo, mb_some, mp_some, b_X10_childsDeed_13]
      rfl
  | succ l ih =>
    intro hl
    obtain ⟨ihm, ihc⟩ := ih (by omega)
    have e1 : nI (l + 1) - 1 = nI l := pk_sub (a := l + 1) (b := 1) (by omega)
    have gpos : (0 : Int32) < nI (l + 1) := nI_lt (a := 0) (b := l + 1) (by omega) (by omega)
    constructor
    · intro w d t D hw hD h5 htd htN
      obtain ⟨d', rfl⟩ : ∃ d, D = (d + 1) + 1 := ⟨D - 2, by omega⟩
      have lc : ∀ w', w' < 25 → gV (HT W p h man child) goal (cnt p (tfp h child)) l false w' (d + 1) t ≤ 8 := fun w' hw' => gV_le hgo _ _ _ _ _ hw'
      rw [b_X10_mansDeed_0, m_if_pos gpos, e1, nI_1, ihc w (d + 1) t _ hw (by omega) (by omega) (by omega) htN, mb_some, mp_some, b_X10_mansDeed_27, show (3 : Int32) * nI t + nI d = nI (3 * t + d) by rw [show (3 : Int32) = nI 3 from rfl, pk_mul, nI_add], x_heldT hT _ w d t hw htN htd (by omega), mb_some, mp_some, b_X10_mansDeed_39, mi_b2]
      by_cases c : HT W p h man child t d w
      · rw [m_if_pos c, show gV (HT W p h man child) goal (cnt p (tfp h child)) (l + 1) true w d t = _ from if_pos c]
      · rw [m_if_neg c, show gV (HT W p h man child) goal (cnt p (tfp h child)) (l + 1) true w d t = _ from if_neg c]
        refine ok_eq (ok_loop (E := fun k (a : Nat) g => ev none ((d' + 1) + 1) mm_X10_mansDeed 48 [.ref 19, .int (nI w), .int (nI d), .int (nI t), .int (nI (l + 1)), .int (nI a), .int (nI k)] [] g) (I := fun k a g3 => a = mnF (fun w' => gV (HT W p h man child) goal (cnt p (tfp h child)) l false w' (d + 1) t) w k ∧ g3 = g) (P := 4) ?_ ?_ 0 _ g (by omega) ⟨rfl, rfl⟩)
        · intro k a g3 hk ⟨ha, hg⟩ next
          subst hg
          have hst := st_lt w hw k (by omega)
          have q1 := lc _ hst
          have q2 := mnF_le (c := fun w' => gV (HT W p h man child) goal (cnt p (tfp h child)) l false w' (d + 1) t) hw lc k (by omega)
          show Ok (ev none ((d' + 1) + 1) mm_X10_mansDeed 48 [.ref 19, .int (nI w), .int (nI d), .int (nI t), .int (nI (l + 1)), .int (nI a), .int (nI k)] [] g3) _
          rw [b_X10_mansDeed_48, show (4 : Int32) = nI 4 from rfl, m_if_pos (nI_lt hk (by omega)), v_stepped _ _ w hw k (by omega), mb_some, mp_some, b_X10_mansDeed_63, e1, nI_1, ihc (st w k) (d + 1) t _ hst (by omega) (by omega) (by omega) htN, mb_some, mp_some, b_X10_mansDeed_74, ha, mn_i (by omega) (by omega), b_X10_mansDeed_77, nI_1]
          exact next _ _ ⟨rfl, rfl⟩
        · intro a g3 ⟨ha, hg⟩
          subst hg
          show Ok (ev none ((d' + 1) + 1) mm_X10_mansDeed 48 [.ref 19, .int (nI w), .int (nI d), .int (nI t), .int (nI (l + 1)), .int (nI a), .int 4] [] g3) _
          rw [b_X10_mansDeed_48, m_if_neg (by decide)]
          exact ok_some ⟨by rw [ha], rfl⟩
    · intro w d t D hw hD h6 htd htN
      obtain ⟨d', rfl⟩ : ∃ d, D = (d + 1) + 1 := ⟨D - 2, by omega⟩
      have lm : ∀ t, gV (HT W p h man child) goal (cnt p (tfp h child)) l true w d t ≤ 8 := fun t => gV_le hgo _ _ _ _ _ hw
      have a1 := lm t
      have a2 := lm (t + 1)
      have hMN : t < (if cnt p (tfp h child) < 2 then cnt p (tfp h child) else 2) ↔ t < cnt p (tfp h child) := by
        split <;> omega
      have hM3 : (if cnt p (tfp h child) < 2 then cnt p (tfp h child) else 2) < 3 := by split <;> omega
      rw [b_X10_childsDeed_0, m_if_pos gpos, e1, ihm w d t _ hw (by omega) (by omega) (by omega) htN, mb_some, mp_some, b_X10_childsDeed_25, hT.2.1, mi_c (nI_ltI (by omega) (by omega)), mi_c hMN]
      by_cases c : t < cnt p (tfp h child)
      · rw [m_if_pos c, e1, nI_1, ihm w d (t + 1) _ hw (by omega) (by omega) (by omega) (by omega), mb_some, mp_some, b_X10_childsDeed_50, mx_i (by omega) (by omega), b_X10_childsDeed_53, show gV (HT W p h man child) goal (cnt p (tfp h child)) (l + 1) false w d t = _ from if_pos c]
      · rw [m_if_neg c, gV_c0 c]
