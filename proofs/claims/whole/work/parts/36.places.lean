/-! STEPS, WAYS, PLACES -/
def st (pl way : Nat) : Nat := if way = 0 then (if 5 ≤ pl then pl - 5 else pl) else if way = 1 then (if pl % 5 < 4 then pl + 1 else pl) else if way = 2 then (if pl < 20 then pl + 5 else pl) else if way = 3 then (if 0 < pl % 5 then pl - 1 else pl) else pl
theorem st_lt : ∀ pl, pl < 25 → ∀ way, way < 5 → st pl way < 25 := by decide +kernel
theorem v_stepped (d : Nat) (g : mG) : ∀ pl, pl < 25 → ∀ way, way < 5 → ev none d mm_X11_stepped 0 [.int (nI pl), .int (nI way), .null, .null] [] g = some (some (.int (nI (st pl way))), g) := by
  intro pl hpl way hw
  rw [b_X11_stepped_0]
  simp only [mi_pure]
  refine congrArg (fun z => some (some (Value.int z), g)) ?_
  revert way
  revert pl
  decide +kernel
theorem v_steppedM (d : Nat) (g : mG) : ∀ pl, pl < 25 → ∀ way, way < 5 → ev none (d + 1) mm_X12_stepped 0 [.int (nI pl), .int (nI way), .null, .null] [] g = some (some (.int (nI (st pl way))), g) := by
  intro pl hpl way hw
  rw [b_X12_stepped_0]
  simp only [b_X12_stepped_22, b_X12_stepped_45, v_X12_in, mb_some, mp_some, b_X12_stepped_53, mi_b2, b_X12_stepped_62, mi_pure]
  refine congrArg (fun z => some (some (Value.int z), g)) ?_
  revert way
  revert pl
  decide +kernel
def far (a b : Nat) : Nat := (if a % 5 < b % 5 then b % 5 - a % 5 else a % 5 - b % 5) + (if a / 5 < b / 5 then b / 5 - a / 5 else a / 5 - b / 5)
theorem v_distance (d : Nat) (g : mG) : ∀ a, a < 25 → ∀ b, b < 25 → ev none (d + 1) mm_X11_distance 0 [.int (nI a), .int (nI b)] [] g = some (some (.int (nI (far a b))), g) := by
  intro a ha b hb
  rw [b_X11_distance_0, b_X11_distance_10, b_X11_distance_20]
  refine congrArg (fun z => some (some (Value.int z), g)) ?_
  revert b
  revert a
  decide +kernel
theorem v_farOf (d : Nat) (g : mG) : ∀ a, a < 25 → ∀ b, b < 25 → ev none d mm_X12_farOf 0 [.int (nI a), .int (nI b), .null, .null] [] g = some (some (.int (nI (far a b))), g) := by
  intro a ha b hb
  rw [b_X12_farOf_0]
  simp only [b_X12_farOf_26, mi_pure]
  refine congrArg (fun z => some (some (Value.int z), g)) ?_
  revert b
  revert a
  decide +kernel
theorem far_le (a b : Nat) (ha : a < 25) (hb : b < 25) : far a b ≤ 8 := by
  unfold far
  split <;> split <;> omega
/-- where one may be a day on -/
def spr (P G : Nat) : Nat := (((P ||| (adn P G) / 2 ^ 5) ||| (((adn P G) * 2 ^ 5) &&& 33554431)) ||| ((adn (adn P G) 17318416) * 2 ^ 1)) ||| ((adn (adn P G) 1082401) / 2 ^ 1)
theorem adn_le (a b : Nat) : adn a b ≤ a := by
  have : adn a b = a &&& adn a b := Nat.eq_of_testBit_eq (fun i => by
    rw [Nat.testBit_and, adn_bit]
    cases a.testBit i <;> rfl)
  rw [this]
  exact Nat.and_le_left
theorem v_spread (d : Nat) (g : mG) (P G : Nat) (hP : P < 2 ^ 25) : ev none d mm_X11_spread 0 [.int (nI P), .int (nI G), .null, .null, .null, .null, .null] [] g = some (some (.int (nI (spr P G))), g) := by
  rw [b_X11_spread_0]
  have h1 := adn_le P G
  have h2 := adn_le (adn P G) 17318416
  have h3 := adn_le (adn P G) 1082401
  have e1 : (-17318417 : Int32) = nI 17318416 ^^^ (-1) := by decide
  have e2 : (-1082402 : Int32) = nI 1082401 ^^^ (-1) := by decide
  have e5 : ((5 : Int32) &&& 31) = (nI 5 &&& 31) := rfl
  have e6 : ((1 : Int32) &&& 31) = (nI 1 &&& 31) := rfl
  rw [t_not, e1, e2, t_not, t_not, e5, e6, t_shr (i := 5) (by omega) (by omega), t_shl (i := 5) (by omega) (by omega), t_shl (i := 1) (by omega) (by omega), t_shr (i := 1) (by omega) (by omega), t_lit 33554431, t_and, t_or, t_or, t_or, t_or]
  rfl
theorem re_bit : ∀ i, i < 25 → (Nat.testBit 17318416 i = true ↔ i % 5 = 4) ∧ (Nat.testBit 1082401 i = true ↔ i % 5 = 0) := by decide +kernel
theorem all_bit : ∀ i, i < 25 → Nat.testBit 33554431 i = true := by decide +kernel
theorem tb_hi {a k i : Nat} (h : a < 2 ^ k) (hi : k ≤ i) : a.testBit i = false := Nat.testBit_lt_two_pow (Nat.lt_of_lt_of_le h (Nat.pow_le_pow_right (by omega) hi))
theorem tb_ff {b : Bool} {c : Prop} (h : b = true ↔ c) : b = false ↔ ¬ c := by
  rw [← h]
  cases b <;> decide
theorem spr_bit (P G : Nat) (hP : P < 2 ^ 25) (i : Nat) (hi : i < 25) : (spr P G).testBit i = true ↔ P.testBit i = true ∨ (adn P G).testBit (i + 5) = true ∨ (5 ≤ i ∧ (adn P G).testBit (i - 5) = true) ∨ (1 ≤ i ∧ (adn P G).testBit (i - 1) = true ∧ (i - 1) % 5 ≠ 4) ∨ ((adn P G).testBit (i + 1) = true ∧ (i + 1) % 5 ≠ 0) := by
  have hA : adn P G < 2 ^ 25 := Nat.lt_of_le_of_lt (adn_le P G) hP
  unfold spr
  generalize adn P G = A at hA
  have b1 := tb_ff (re_bit (i - 1) (by omega)).1
  have b2 : (A.testBit (i + 1) = true ∧ Nat.testBit 1082401 (i + 1) = false) ↔ (A.testBit (i + 1) = true ∧ (i + 1) % 5 ≠ 0) := by
    by_cases c : i + 1 < 25
    · rw [tb_ff (re_bit (i + 1) c).2]
    · rw [tb_hi hA (by omega)]
      exact ⟨fun e => absurd e.1 (by decide), fun e => absurd e.1 (by decide)⟩
  simp only [Nat.testBit_or, Nat.testBit_and, Nat.testBit_div_two_pow, Nat.testBit_mul_two_pow, adn_bit, all_bit i hi, Bool.or_eq_true, Bool.and_eq_true, decide_eq_true_iff, Bool.not_eq_true', b1, b2, and_true]
  constructor
  · rintro ((((h | h) | h) | h) | h)
    · exact Or.inl h
    · exact Or.inr (Or.inl h)
    · exact Or.inr (Or.inr (Or.inl h))
    · exact Or.inr (Or.inr (Or.inr (Or.inl h)))
    · exact Or.inr (Or.inr (Or.inr (Or.inr h)))
  · rintro (h | h | h | h | h)
    · exact Or.inl (Or.inl (Or.inl (Or.inl h)))
    · exact Or.inl (Or.inl (Or.inl (Or.inr h)))
    · exact Or.inl (Or.inl (Or.inr h))
    · exact Or.inl (Or.inr h)
    · exact Or.inr h
theorem spr_lt (P G : Nat) (hP : P < 2 ^ 25) : spr P G < 2 ^ 25 := by
  have hA : adn P G < 2 ^ 25 := Nat.lt_of_le_of_lt (adn_le P G) hP
  unfold spr
  generalize adn P G = A at hA
  refine Nat.lt_pow_two_of_testBit _ (fun i hi => ?_)
  have m1 : Nat.testBit 33554431 i = false := tb_hi (k := 25) (by omega) hi
  have m2 : (A.testBit (i - 1) && !Nat.testBit 17318416 (i - 1)) = false := by
    by_cases c : i - 1 = 24
    · rw [c, show Nat.testBit 17318416 24 = true from by decide]
      cases A.testBit 24 <;> rfl
    · rw [tb_hi hA (by omega)]; rfl
  simp only [Nat.testBit_or, Nat.testBit_and, Nat.testBit_div_two_pow, Nat.testBit_mul_two_pow, adn_bit, m1, m2, tb_hi hP hi, tb_hi hA (show 25 ≤ i + 5 by omega), tb_hi hA (show 25 ≤ i + 1 by omega), Bool.and_false, Bool.or_false, Bool.false_and]
/-- the same, place by place -/
noncomputable def dfr (H : Nat → Prop) (P : Nat) : Nat := bts 25 (fun i => ∃ q, q < 25 ∧ P.testBit q = true ∧ ((H q ∧ i = q) ∨ (¬ H q ∧ ∃ w, w < 5 ∧ i = st q w)))
theorem st_nb (i : Nat) (hi : i < 25) (q : Nat) (hq : q < 25) : (∃ w, w < 5 ∧ i = st q w) ↔ (i = q ∨ q = i + 5 ∨ (5 ≤ i ∧ q = i - 5) ∨ (1 ≤ i ∧ q = i - 1 ∧ (i - 1) % 5 ≠ 4) ∨ (q = i + 1 ∧ (i + 1) % 5 ≠ 0)) := by
  have s0 : st q 0 = if 5 ≤ q then q - 5 else q := rfl
  have s1 : st q 1 = if q % 5 < 4 then q + 1 else q := rfl
  have s2 : st q 2 = if q < 20 then q + 5 else q := rfl
  have s3 : st q 3 = if 0 < q % 5 then q - 1 else q := rfl
  have s4 : st q 4 = q := rfl
  constructor
  · intro ⟨w, hw, e⟩
    revert e
    refine lt5 (P := fun w => i = st q w → (i = q ∨ q = i + 5 ∨ (5 ≤ i ∧ q = i - 5) ∨ (1 ≤ i ∧ q = i - 1 ∧ (i - 1) % 5 ≠ 4) ∨ (q = i + 1 ∧ (i + 1) % 5 ≠ 0))) hw ?_ ?_ ?_ ?_ ?_
    · intro e
      rw [s0] at e
      split at e <;> omega
    · intro e
      rw [s1] at e
      split at e <;> omega
    · intro e
      rw [s2] at e
      split at e <;> omega
    · intro e
      rw [s3] at e
      split at e <;> omega
    · intro e
      rw [s4] at e
      exact Or.inl e
  · rintro (e | e | e | e | e)
    · exact ⟨4, by omega, by rw [s4]; exact e⟩
    · exact ⟨0, by omega, by rw [s0, if_pos (by omega)]; omega⟩
    · exact ⟨2, by omega, by rw [s2, if_pos (by omega)]; omega⟩
    · exact ⟨1, by omega, by rw [s1, if_pos (by omega)]; omega⟩
    · exact ⟨3, by omega, by rw [s3, if_pos (by omega)]; omega⟩
theorem spr_dfr (H : Nat → Prop) (P : Nat) (hP : P < 2 ^ 25) : spr P (bts 25 H) = dfr H P := by
  refine nat_ext (fun i => ?_)
  by_cases hi : i < 25
  · have hb : ∀ q, (adn P (bts 25 H)).testBit q = true ↔ q < 25 ∧ P.testBit q = true ∧ ¬ H q := by
      intro q
      rw [adn_bit, Bool.and_eq_true, Bool.not_eq_true', tb_ff (bts_bit q)]
      constructor
      · intro ⟨h1, h2⟩
        have := tb_lt hP h1
        exact ⟨this, h1, fun h3 => h2 ⟨this, h3⟩⟩
      · intro ⟨h1, h2, h3⟩
        exact ⟨h2, fun h4 => h3 h4.2⟩
    unfold dfr
    rw [spr_bit _ _ hP i hi, bts_bit, hb, hb, hb, hb]
    constructor
    · intro h
      refine ⟨hi, ?_⟩
      rcases h with h | h | ⟨h0, h⟩ | ⟨h0, h, h1⟩ | ⟨h, h1⟩
      · by_cases c : H i
        · exact ⟨i, hi, h, Or.inl ⟨c, rfl⟩⟩
        · exact ⟨i, hi, h, Or.inr ⟨c, (st_nb i hi i hi).mpr (Or.inl rfl)⟩⟩
      · exact ⟨i + 5, h.1, h.2.1, Or.inr ⟨h.2.2, (st_nb i hi _ h.1).mpr (Or.inr (Or.inl rfl))⟩⟩
      · exact ⟨i - 5, h.1, h.2.1, Or.inr ⟨h.2.2, (st_nb i hi _ h.1).mpr (Or.inr (Or.inr (Or.inl ⟨h0, rfl⟩)))⟩⟩
      · exact ⟨i - 1, h.1, h.2.1, Or.inr ⟨h.2.2, (st_nb i hi _ h.1).mpr (Or.inr (Or.inr (Or.inr (Or.inl ⟨h0, rfl, h1⟩))))⟩⟩
      · exact ⟨i + 1, h.1, h.2.1, Or.inr ⟨h.2.2, (st_nb i hi _ h.1).mpr (Or.inr (Or.inr (Or.inr (Or.inr ⟨rfl, h1⟩))))⟩⟩
    · intro ⟨_, q, hq, hp, h⟩
      rcases h with ⟨_, h⟩ | ⟨h1, h⟩
      · subst h; exact Or.inl hp
      · rcases (st_nb i hi q hq).mp h with e | e | e | e | e
        · subst e; exact Or.inl hp
        · subst e; exact Or.inr (Or.inl ⟨hq, hp, h1⟩)
        · obtain ⟨e0, e⟩ := e
          subst e; exact Or.inr (Or.inr (Or.inl ⟨e0, hq, hp, h1⟩))
        · obtain ⟨e0, e, e2⟩ := e
          subst e; exact Or.inr (Or.inr (Or.inr (Or.inl ⟨e0, ⟨hq, hp, h1⟩, e2⟩)))
        · obtain ⟨e, e2⟩ := e
          subst e; exact Or.inr (Or.inr (Or.inr (Or.inr ⟨⟨hq, hp, h1⟩, e2⟩)))
  · rw [tb_hi (spr_lt _ _ hP) (by omega)]
    have : dfr H P < 2 ^ 25 := bts_lt
    rw [tb_hi this (by omega)]
theorem dfr_lt (H : Nat → Prop) (P : Nat) : dfr H P < 2 ^ 25 := bts_lt
/-- as the model makes it: up to a place, and some ways from it -/
noncomputable def dfU (H : Nat → Prop) (P e : Nat) : Nat := bts 25 (fun i => ∃ q, q < e ∧ P.testBit q = true ∧ ((H q ∧ i = q) ∨ (¬ H q ∧ ∃ w, w < 5 ∧ i = st q w)))
noncomputable def dfV (H : Nat → Prop) (P e v : Nat) : Nat := bts 25 (fun i => (∃ q, q < e ∧ P.testBit q = true ∧ ((H q ∧ i = q) ∨ (¬ H q ∧ ∃ w, w < 5 ∧ i = st q w))) ∨ ∃ w, w < v ∧ i = st e w)
theorem dfU_n {H : Nat → Prop} {P e : Nat} (h : ¬ P.testBit e = true) : dfU H P (e + 1) = dfU H P e := by
  refine bts_c (fun i hi => ?_)
  constructor
  · intro ⟨q, hq, h1, h2⟩
    by_cases c : q = e
    · subst c; exact absurd h1 h
    · exact ⟨q, by omega, h1, h2⟩
  · intro ⟨q, hq, h1, h2⟩
    exact ⟨q, by omega, h1, h2⟩
theorem dfU_h {H : Nat → Prop} {P e : Nat} (he : e < 25) (h : P.testBit e = true) (hH : H e) : dfU H P (e + 1) = dfU H P e ||| 2 ^ e := by
  refine nat_ext (fun i => ?_)
  unfold dfU
  rw [Nat.testBit_or, Bool.or_eq_true, bts_bit, bts_bit, t_tb2, decide_eq_true_iff]
  constructor
  · intro ⟨hi, q, hq, h1, h2⟩
    by_cases c : q = e
    · subst c
      rcases h2 with h2 | h2
      · exact Or.inr h2.2.symm
      · exact absurd hH h2.1
    · exact Or.inl ⟨hi, q, by omega, h1, h2⟩
  · rintro (⟨hi, q, hq, h1, h2⟩ | hi)
    · exact ⟨hi, q, by omega, h1, h2⟩
    · subst hi
      exact ⟨he, e, by omega, h, Or.inl ⟨hH, rfl⟩⟩
theorem dfV_0 {H : Nat → Prop} {P e : Nat} : dfV H P e 0 = dfU H P e := by
  refine bts_c (fun i hi => ?_)
  exact ⟨fun h => h.elim id (fun ⟨w, hw, _⟩ => by omega), fun h => Or.inl h⟩
theorem dfV_s {H : Nat → Prop} {P e v : Nat} (he : e < 25) (hv : v < 5) : dfV H P e (v + 1) = dfV H P e v ||| 2 ^ (st e v) := by
  refine nat_ext (fun i => ?_)
  have hs := st_lt e he v hv
  unfold dfV
  rw [Nat.testBit_or, Bool.or_eq_true, bts_bit, bts_bit, t_tb2, decide_eq_true_iff]
  constructor
  · rintro ⟨hi, h | ⟨w, hw, e1⟩⟩
    · exact Or.inl ⟨hi, Or.inl h⟩
    · by_cases c : w = v
      · subst c; exact Or.inr e1.symm
      · exact Or.inl ⟨hi, Or.inr ⟨w, by omega, e1⟩⟩
  · rintro (⟨hi, h | ⟨w, hw, e1⟩⟩ | hi)
    · exact ⟨hi, Or.inl h⟩
    · exact ⟨hi, Or.inr ⟨w, by omega, e1⟩⟩
    · subst hi
      exact ⟨hs, Or.inr ⟨v, by omega, rfl⟩⟩
theorem dfV_5 {H : Nat → Prop} {P e : Nat} (h : P.testBit e = true) (hH : ¬ H e) : dfV H P e 5 = dfU H P (e + 1) := by
  refine bts_c (fun i hi => ?_)
  constructor
  · rintro (⟨q, hq, h1, h2⟩ | h2)
    · exact ⟨q, by omega, h1, h2⟩
    · exact ⟨e, by omega, h, Or.inr ⟨hH, h2⟩⟩
  · intro ⟨q, hq, h1, h2⟩
    by_cases c : q = e
    · subst c
      rcases h2 with h2 | h2
      · exact absurd h2.1 hH
      · exact Or.inr h2.2
    · exact Or.inl ⟨q, by omega, h1, h2⟩
theorem m_dayFrom {W : mW} {n p : Nat} {h : mH} {g : mG} (hM : MC W n p h g) (d : Nat) (one day : Int32) (P : Nat) (hP : P < 2 ^ 25) : Ok (ev none (d + 7) mm_X12_dayFrom 0 [.ref 55, .int one, .int (nI P), .int day, .null, .null, .null] [] g) (fun r g2 => r = some (.int (nI (dfr (fun pl => hld W p h one (nI pl) day) P))) ∧ Fr s1 g g2) := by
  have u0 : dfU (fun pl => hld W p h one (nI pl) day) P 0 = 0 := bts_0.mpr (fun i hi => fun ⟨q, hq, _⟩ => by omega)
  rw [b_X12_dayFrom_0]
  refine ok_loop (E := fun e (a : Nat × Value) g => ev none (d + 7) mm_X12_dayFrom 6 [.ref 55, .int one, .int (nI P), .int day, .int (nI a.1), .int (nI e), a.2] [] g) (I := fun e a g' => a.1 = dfU (fun pl => hld W p h one (nI pl) day) P e ∧ Fr s1 g g') (P := 25) ?_ ?_ 0 (0, .null) g (by omega) ⟨u0.symm, fr_refl⟩
  · intro e ⟨a, v6⟩ g' he ⟨ha, hg⟩ next
    dsimp only at ha
    have hM1 := MC_fr (fr_1A hg) hM
    have step : ∀ m v g2, Fr s1 g g2 → m = dfU (fun pl => hld W p h one (nI pl) day) P (e + 1) → Ok (ev none (d + 7) mm_X12_dayFrom 77 [.ref 55, .int one, .int (nI P), .int day, .int (nI m), .int (nI e), v] [] g2) (fun r g2 => r = some (.int (nI (dfr (fun pl => hld W p h one (nI pl) day) P))) ∧ Fr s1 g g2) := by
      intro m v g2 hg2 hm
      rw [b_X12_dayFrom_77, nI_1]
      exact next (m, v) g2 ⟨hm, hg2⟩
    show Ok (ev none (d + 7) mm_X12_dayFrom 6 [.ref 55, .int one, .int (nI P), .int day, .int (nI a), .int (nI e), v6] [] g') _
    rw [b_X12_dayFrom_6, m_if_pos (show nI e < 25 from nI_lt (b := 25) he (by omega)), v_has _ _ P e (by omega) (by omega), mb_some, mp_some, b_X12_dayFrom_19, mi_b2]
    refine ok_if (fun c => ?_) (fun c => ?_)
    · refine ok_bnd (m_isHeld hM1 d one (nI e) day) ?_
      intro r g2 ⟨hr, F⟩
      subst hr
      rw [mp_some, b_X12_dayFrom_33, mi_b2]
      refine ok_if (fun c2 => ?_) (fun c2 => ?_)
      · rw [t_or1 (by omega)]
        exact step _ _ _ (fr_trans hg F) (by rw [dfU_h he c c2, ha])
      · refine ok_loop (E := fun v (b : Nat) g => ev none (d + 7) mm_X12_dayFrom 51 [.ref 55, .int one, .int (nI P), .int day, .int (nI b), .int (nI e), .int (nI v)] [] g) (I := fun v b g3 => b = dfV (fun pl => hld W p h one (nI pl) day) P e v ∧ g3 = g2) (P := 5) ?_ ?_ 0 a g2 (by omega) ⟨by rw [dfV_0, ha], rfl⟩
        · intro v b g3 hv ⟨hb, hg3⟩ next2
          subst hg3
          show Ok (ev none (d + 7) mm_X12_dayFrom 51 [.ref 55, .int one, .int (nI P), .int day, .int (nI b), .int (nI e), .int (nI v)] [] g3) _
          rw [b_X12_dayFrom_51, m_if_pos (show nI v < 5 from nI_lt (b := 5) hv (by omega)), v_steppedM _ _ e he v hv, mb_some, mp_some, b_X12_dayFrom_67, t_or1 (by have := st_lt e he v hv; omega), nI_1]
          exact next2 _ g3 ⟨by rw [hb, dfV_s he hv], rfl⟩
        · intro b g3 ⟨hb, hg3⟩
          subst hg3
          show Ok (ev none (d + 7) mm_X12_dayFrom 51 [.ref 55, .int one, .int (nI P), .int day, .int (nI b), .int (nI e), .int (nI 5)] [] g3) _
          rw [b_X12_dayFrom_51, m_if_neg (show ¬ nI 5 < 5 by decide)]
          exact step _ _ _ (fr_trans hg F) (by rw [hb, dfV_5 c c2])
    · exact step _ _ _ hg (by rw [dfU_n c, ha])
  · intro ⟨a, v6⟩ g' ⟨ha, hg⟩
    dsimp only at ha
    show Ok (ev none (d + 7) mm_X12_dayFrom 6 [.ref 55, .int one, .int (nI P), .int day, .int (nI a), .int (nI 25), v6] [] g') _
    rw [b_X12_dayFrom_6, m_if_neg (show ¬ nI 25 < 25 by decide)]
    exact ok_some ⟨by rw [ha]; rfl, hg⟩
/-- Java's own count, of a set of places -/
theorem and_8 (l h m m2 : Nat) (hl : l < 256) (hm : m < 256) : (l + 256 * h) &&& (m + 256 * m2) = (l &&& m) + 256 * (h &&& m2) := by
  have hlm : l &&& m < 2 ^ 8 := Nat.lt_of_le_of_lt Nat.and_le_left hl
  refine Nat.eq_of_testBit_eq (fun i => ?_)
  rw [Nat.testBit_and, Nat.add_comm l, Nat.add_comm m, Nat.add_comm (l &&& m), show (256 : Nat) = 2 ^ 8 from rfl, Nat.testBit_two_pow_mul_add _ hl, Nat.testBit_two_pow_mul_add _ hm, Nat.testBit_two_pow_mul_add _ hlm]
  split
  · rw [Nat.testBit_and]
  · rw [Nat.testBit_and]
def f1 (x : Nat) : Nat := x - ((x / 2) &&& 1431655765)
def f2 (x : Nat) : Nat := (x &&& 858993459) + ((x / 4) &&& 858993459)
def f3 (x : Nat) : Nat := (x + x / 16) &&& 252645135
theorem and_w {h a b k : Nat} (hh : h < 2 ^ k) (hab : ∀ i, i < k → Nat.testBit a i = Nat.testBit b i) : h &&& a = h &&& b := by
  refine Nat.eq_of_testBit_eq (fun i => ?_)
  rw [Nat.testBit_and, Nat.testBit_and]
  by_cases hi : i < k
  · rw [hab i hi]
  · rw [tb_hi hh (by omega)]
    rfl
theorem m55 : ∀ b, b < 2 → ∀ l, l < 256 → (l / 2 + 128 * b) &&& 85 = (l / 2) &&& 1431655765 := by decide +kernel
theorem f1_8 (l h : Nat) (hl : l < 256) (hh : h < 2 ^ 24) : f1 (l + 256 * h) = f1 l + 256 * f1 h := by
  have e1 : (l + 256 * h) / 2 = (l / 2 + 128 * (h % 2)) + 256 * (h / 2) := by omega
  have e3 : (h / 2) &&& 5592405 = (h / 2) &&& 1431655765 := and_w (k := 23) (by omega) (by decide +kernel)
  have a1 : (l / 2) &&& 1431655765 ≤ l / 2 := Nat.and_le_left
  have a2 : (h / 2) &&& 1431655765 ≤ h / 2 := Nat.and_le_left
  have e4 : ((l + 256 * h) / 2) &&& 1431655765 = ((l / 2) &&& 1431655765) + 256 * ((h / 2) &&& 1431655765) := by
    have := and_8 (l / 2 + 128 * (h % 2)) (h / 2) 85 5592405 (by omega) (by omega)
    rw [m55 (h % 2) (by omega) l hl, e3] at this
    rw [e1]
    exact this
  unfold f1
  rw [e4]
  omega
theorem m33 : ∀ b, b < 4 → ∀ l, l < 256 → (l / 4 + 64 * b) &&& 51 = (l / 4) &&& 858993459 := by decide +kernel
theorem m33b : ∀ l, l < 256 → l &&& 51 = l &&& 858993459 := by decide +kernel
theorem f2_8 (l h : Nat) (hl : l < 256) (hh : h < 2 ^ 24) : f2 (l + 256 * h) = f2 l + 256 * f2 h := by
  have e1 : (l + 256 * h) / 4 = (l / 4 + 64 * (h % 4)) + 256 * (h / 4) := by omega
  have e3 : (h / 4) &&& 3355443 = (h / 4) &&& 858993459 := and_w (k := 22) (by omega) (by decide +kernel)
  have e5 : h &&& 3355443 = h &&& 858993459 := and_w (k := 24) (by omega) (by decide +kernel)
  have e4 : ((l + 256 * h) / 4) &&& 858993459 = ((l / 4) &&& 858993459) + 256 * ((h / 4) &&& 858993459) := by
    have := and_8 (l / 4 + 64 * (h % 4)) (h / 4) 51 3355443 (by omega) (by omega)
    rw [m33 (h % 4) (by omega) l hl, e3] at this
    rw [e1]
    exact this
  have e6 : (l + 256 * h) &&& 858993459 = (l &&& 858993459) + 256 * (h &&& 858993459) := by
    have := and_8 l h 51 3355443 (by omega) (by omega)
    rw [m33b l hl, e5] at this
    exact this
  unfold f2
  rw [e4, e6]
  omega
theorem m0f : ∀ b, b < 5 → ∀ l, l < 69 → (l + l / 16 + 16 * b) &&& 15 = (l + l / 16) &&& 252645135 := by decide +kernel
theorem f3_8 (l h : Nat) (hl : l < 69) (hh : h < 2 ^ 24) (h4 : h % 16 < 5) (h5 : h + h / 16 < 2 ^ 24) : f3 (l + 256 * h) = f3 l + 256 * f3 h := by
  have e1 : (l + 256 * h) + (l + 256 * h) / 16 = (l + l / 16 + 16 * (h % 16)) + 256 * (h + h / 16) := by omega
  have e3 : (h + h / 16) &&& 986895 = (h + h / 16) &&& 252645135 := and_w (k := 24) (by omega) (by decide +kernel)
  have := and_8 (l + l / 16 + 16 * (h % 16)) (h + h / 16) 15 986895 (by omega) (by omega)
  rw [m0f (h % 16) h4 l hl, e3] at this
  unfold f3
  rw [e1]
  exact this
theorem f123 : ∀ l, l < 256 → f1 l < 256 ∧ f2 (f1 l) < 69 ∧ f2 (f1 l) % 16 < 5 ∧ f3 (f2 (f1 l)) = popF 8 l ∧ popF 8 l ≤ 8 := by decide +kernel
theorem popF_add (j k a : Nat) : popF (j + k) a = popF j a + popF k (a / 2 ^ j) := by
  induction j generalizing a with
  | zero => rw [Nat.zero_add, Nat.pow_zero, Nat.div_one]; show _ = 0 + _; rw [Nat.zero_add]
  | succ j ih =>
    rw [show j + 1 + k = (j + k) + 1 by omega]
    show a % 2 + popF (j + k) (a / 2) = (a % 2 + popF j (a / 2)) + _
    rw [ih, Nat.div_div_eq_div_mul, show 2 * 2 ^ j = 2 ^ (j + 1) by rw [Nat.pow_succ, Nat.mul_comm]]
    omega
theorem popF_low (l h : Nat) (hl : l < 256) : popF 8 (l + 256 * h) = popF 8 l := by
  rw [popF_cnt, popF_cnt]
  refine cnt_c (fun i hi => ?_)
  rw [Nat.add_comm l, show (256 : Nat) = 2 ^ 8 from rfl, Nat.testBit_two_pow_mul_add _ hl, if_pos hi]
theorem pop_bytes (l0 l1 l2 l3 : Nat) (h0 : l0 < 256) (h1 : l1 < 256) (h2 : l2 < 256) (h3 : l3 < 256) : pop (l0 + 256 * (l1 + 256 * (l2 + 256 * l3))) = popF 8 l0 + (popF 8 l1 + (popF 8 l2 + popF 8 l3)) := by
  unfold pop
  rw [show (32 : Nat) = 8 + (8 + (8 + 8)) from rfl, popF_add, popF_add, popF_add, popF_low _ _ h0]
  rw [show (l0 + 256 * (l1 + 256 * (l2 + 256 * l3))) / 2 ^ 8 = l1 + 256 * (l2 + 256 * l3) by omega, popF_low _ _ h1]
  rw [show (l1 + 256 * (l2 + 256 * l3)) / 2 ^ 8 = l2 + 256 * l3 by omega, popF_low _ _ h2]
  rw [show (l2 + 256 * l3) / 2 ^ 8 = l3 by omega]
theorem swar_n (a : Nat) (ha : a < 2 ^ 25) : (f3 (f2 (f1 a)) + f3 (f2 (f1 a)) / 256 + (f3 (f2 (f1 a)) + f3 (f2 (f1 a)) / 256) / 65536) % 64 = pop a := by
  obtain ⟨k0, k1, k2, k3, q0, q1, q2, q3, e⟩ : ∃ k0 k1 k2 k3, k0 < 256 ∧ k1 < 256 ∧ k2 < 256 ∧ k3 < 2 ∧ a = k0 + 256 * (k1 + 256 * (k2 + 256 * k3)) := ⟨a % 256, a / 256 % 256, a / 65536 % 256, a / 16777216, by omega, by omega, by omega, by omega, by omega⟩
  obtain ⟨u0, w0, z0, y0, p0⟩ := f123 k0 q0
  obtain ⟨u1, w1, z1, y1, p1⟩ := f123 k1 q1
  obtain ⟨u2, w2, z2, y2, p2⟩ := f123 k2 q2
  obtain ⟨u3, w3, z3, y3, p3⟩ := f123 k3 (by omega)
  have a1 : f1 a = f1 k0 + 256 * (f1 k1 + 256 * (f1 k2 + 256 * f1 k3)) := by
    rw [e, f1_8 k0 _ q0 (by omega), f1_8 k1 _ q1 (by omega), f1_8 k2 _ q2 (by omega)]
  have a2 : f2 (f1 a) = f2 (f1 k0) + 256 * (f2 (f1 k1) + 256 * (f2 (f1 k2) + 256 * f2 (f1 k3))) := by
    rw [a1, f2_8 _ _ u0 (by omega), f2_8 _ _ u1 (by omega), f2_8 _ _ u2 (by omega)]
  have a3 : f3 (f2 (f1 a)) = f3 (f2 (f1 k0)) + 256 * (f3 (f2 (f1 k1)) + 256 * (f3 (f2 (f1 k2)) + 256 * f3 (f2 (f1 k3)))) := by
    rw [a2, f3_8 _ _ w0 (by omega) (by omega) (by omega), f3_8 _ _ w1 (by omega) (by omega) (by omega), f3_8 _ _ w2 (by omega) (by omega) (by omega)]
  have a4 : pop a = popF 8 k0 + (popF 8 k1 + (popF 8 k2 + popF 8 k3)) := by
    rw [e]
    exact pop_bytes k0 k1 k2 k3 q0 q1 q2 (by omega)
  rw [a3, a4, y0, y1, y2, y3]
  clear a1 a2 a3 a4 y0 y1 y2 y3 w0 w1 w2 w3 z0 z1 z2 z3 u0 u1 u2 u3 e
  generalize popF 8 k0 = r0 at p0 ⊢
  generalize popF 8 k1 = r1 at p1 ⊢
  generalize popF 8 k2 = r2 at p2 ⊢
  generalize popF 8 k3 = r3 at p3 ⊢
  have d1 : (r0 + 256 * (r1 + 256 * (r2 + 256 * r3))) / 256 = r1 + 256 * (r2 + 256 * r3) := by omega
  rw [d1]
  have d2 : (r0 + 256 * (r1 + 256 * (r2 + 256 * r3)) + (r1 + 256 * (r2 + 256 * r3))) / 65536 = r2 + r3 + 256 * r3 := by omega
  rw [d2]
  omega
theorem us_n {a : Nat} (ha : a < 2 ^ 32) : (Int32.toUInt32 (nI a) >>> (Int32.toUInt32 (1 : Int32) &&& Int32.toUInt32 31)).toInt32 = nI (a / 2) ∧ (Int32.toUInt32 (nI a) >>> (Int32.toUInt32 (2 : Int32) &&& Int32.toUInt32 31)).toInt32 = nI (a / 4) ∧ (Int32.toUInt32 (nI a) >>> (Int32.toUInt32 (4 : Int32) &&& Int32.toUInt32 31)).toInt32 = nI (a / 16) ∧ (Int32.toUInt32 (nI a) >>> (Int32.toUInt32 (8 : Int32) &&& Int32.toUInt32 31)).toInt32 = nI (a / 256) ∧ (Int32.toUInt32 (nI a) >>> (Int32.toUInt32 (16 : Int32) &&& Int32.toUInt32 31)).toInt32 = nI (a / 65536) := ⟨pk_ushrN ha _ 1 (by decide), pk_ushrN ha _ 2 (by decide), pk_ushrN ha _ 4 (by decide), pk_ushrN ha _ 8 (by decide), pk_ushrN ha _ 16 (by decide)⟩
theorem swar_a (x : Int32) (a b c e : Nat) (h1 : x - ((Int32.toUInt32 x >>> (Int32.toUInt32 (1 : Int32) &&& Int32.toUInt32 31)).toInt32 &&& (1431655765 : Int32)) = nI a) (h2 : (nI a &&& (858993459 : Int32)) + ((Int32.toUInt32 (nI a) >>> (Int32.toUInt32 (2 : Int32) &&& Int32.toUInt32 31)).toInt32 &&& (858993459 : Int32)) = nI b) (h3 : (nI b + (Int32.toUInt32 (nI b) >>> (Int32.toUInt32 (4 : Int32) &&& Int32.toUInt32 31)).toInt32) &&& (252645135 : Int32) = nI c) (h4 : nI c + (Int32.toUInt32 (nI c) >>> (Int32.toUInt32 (8 : Int32) &&& Int32.toUInt32 31)).toInt32 = nI e) : swar x = (nI e + (Int32.toUInt32 (nI e) >>> (Int32.toUInt32 (16 : Int32) &&& Int32.toUInt32 31)).toInt32) &&& 63 := by
  unfold swar
  simp only [h1, h2, h3, h4]
theorem swar_25 (a : Nat) (ha : a < 2 ^ 25) : swar (nI a) = nI (pop a) := by
  have b1 : (a / 2) &&& 1431655765 ≤ a / 2 := Nat.and_le_left
  have l1 : f1 a ≤ a := by unfold f1; omega
  have c1 : f1 a &&& 858993459 ≤ f1 a := Nat.and_le_left
  have c2 : (f1 a / 4) &&& 858993459 ≤ f1 a / 4 := Nat.and_le_left
  have l2 : f2 (f1 a) < 2 ^ 26 := by
    show (f1 a &&& 858993459) + ((f1 a / 4) &&& 858993459) < _
    omega
  have c3 : f3 (f2 (f1 a)) ≤ f2 (f1 a) + f2 (f1 a) / 16 := Nat.and_le_left
  have x1 : nI a - ((Int32.toUInt32 (nI a) >>> (Int32.toUInt32 (1 : Int32) &&& Int32.toUInt32 31)).toInt32 &&& (1431655765 : Int32)) = nI (f1 a) := by
    rw [(us_n (by omega)).1, t_lit 1431655765, t_and]
    exact pk_sub (by omega)
  have x2 : (nI (f1 a) &&& (858993459 : Int32)) + ((Int32.toUInt32 (nI (f1 a)) >>> (Int32.toUInt32 (2 : Int32) &&& Int32.toUInt32 31)).toInt32 &&& (858993459 : Int32)) = nI (f2 (f1 a)) := by
    rw [(us_n (by omega)).2.1, t_lit 858993459, t_and, t_and, nI_add]
    rfl
  have x3 : (nI (f2 (f1 a)) + (Int32.toUInt32 (nI (f2 (f1 a))) >>> (Int32.toUInt32 (4 : Int32) &&& Int32.toUInt32 31)).toInt32) &&& (252645135 : Int32) = nI (f3 (f2 (f1 a))) := by
    rw [(us_n (by omega)).2.2.1, nI_add, t_lit 252645135, t_and]
    rfl
  have x4 : nI (f3 (f2 (f1 a))) + (Int32.toUInt32 (nI (f3 (f2 (f1 a)))) >>> (Int32.toUInt32 (8 : Int32) &&& Int32.toUInt32 31)).toInt32 = nI (f3 (f2 (f1 a)) + f3 (f2 (f1 a)) / 256) := by
    rw [(us_n (by omega)).2.2.2.1, nI_add]
  rw [swar_a _ _ _ _ _ x1 x2 x3 x4, (us_n (by omega)).2.2.2.2, nI_add, pk_andN (by omega) 6 (by decide), ← swar_n a ha]
