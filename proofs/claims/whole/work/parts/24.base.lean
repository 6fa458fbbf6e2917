/-! THE MATHEMATICS (1): words for ev's trees -/
/-- a truth as an int -/
noncomputable def b2 (c : Prop) : Int32 := @ite _ c (Classical.propDecidable c) 1 0
theorem b2_t {c : Prop} (h : c) : b2 c = 1 := if_pos h
theorem b2_f {c : Prop} (h : ¬ c) : b2 c = 0 := if_neg h
theorem b2_c {c e : Prop} (h : c ↔ e) : b2 c = b2 e := by rw [propext h]
theorem b2_0 {c : Prop} : b2 c = 0 ↔ ¬ c := by
  by_cases h : c
  · rw [b2_t h]
    exact ⟨fun e => absurd e (by decide), fun e => absurd h e⟩
  · rw [b2_f h]
    exact ⟨fun _ => h, fun _ => rfl⟩
theorem b2_1 {c : Prop} : b2 c = 1 ↔ c := by
  by_cases h : c
  · rw [b2_t h]
    exact ⟨fun _ => h, fun _ => rfl⟩
  · rw [b2_f h]
    exact ⟨fun e => absurd e (by decide), fun e => absurd e h⟩
theorem b2_and (c : Prop) : b2 c &&& 1 = b2 c := by
  by_cases h : c
  · rw [b2_t h]; decide
  · rw [b2_f h]; decide
theorem b2_n {c : Prop} : ∃ j, j < 2 ∧ b2 c = nI j := by
  by_cases h : c
  · exact ⟨1, by omega, b2_t h⟩
  · exact ⟨0, by omega, b2_f h⟩
theorem mi_b2 {β : Type} {c : Prop} {x y : Option β} : m_if (b2 c = 0) x y = m_if c y x := by
  by_cases h : c
  · rw [m_if_pos h, m_if_neg (by rw [b2_t h]; decide)]
  · rw [m_if_neg h, m_if_pos (b2_f h)]
theorem mi_c {β : Type} {c e : Prop} {x y : Option β} (h : c ↔ e) : m_if c x y = m_if e x y := by rw [propext h]
theorem mi_not {β : Type} {c : Prop} {x y : Option β} : m_if (¬ c) x y = m_if c y x := by
  by_cases h : c
  · rw [m_if_pos h, m_if_neg (fun e => e h)]
  · rw [m_if_neg h, m_if_pos h]
theorem mi_same {β : Type} {c : Prop} {x : Option β} : m_if c x x = x := by
  by_cases h : c
  · rw [m_if_pos h]
  · rw [m_if_neg h]
theorem mi_bnd {c : Prop} {x y : Option (Option Value × mG)} {f : Option Value → mG → Option (Option Value × mG)} : m_bnd (m_if c x y) f = m_if c (m_bnd x f) (m_bnd y f) := by
  by_cases h : c
  · rw [m_if_pos h, m_if_pos h]
  · rw [m_if_neg h, m_if_neg h]
theorem mb_some {r : Option Value} {g : mG} {f : Option Value → mG → Option (Option Value × mG)} : m_bnd (some (r, g)) f = f r g := rfl
theorem mp_some {v : Value} {S : List Value} : m_psh (some v) S = v :: S := rfl
theorem mp_none {S : List Value} : m_psh none S = S := rfl
theorem mi_in {β : Type} {i : Int32} {n : Nat} {x : Option β} (h : vp_in i n) : m_in i n x = x := if_neg h
theorem mi_nI {β : Type} {i n : Nat} {x : Option β} (h : i < n) (hn : n < 2 ^ 31) : m_in (nI i) n x = x := mi_in (vp_in_nI h hn)
theorem s1_r {g : mG} {a k : Nat} {x : Int32} {c j : Nat} : (m_s1 g a k x).1 c j = if c = a then (if j = k then x else g.1 c j) else g.1 c j := by
  unfold m_s1 upd
  dsimp only
  split
  · next h => subst h; rfl
  · rfl
theorem s1_2 {g : mG} {a k : Nat} {x : Int32} : (m_s1 g a k x).2 = g.2 := rfl
theorem s2_1 {g : mG} {a k : Nat} {x : Int64} : (m_s2 g a k x).1 = g.1 := rfl
theorem s2_r {g : mG} {a k : Nat} {x : Int64} {c j : Nat} : (m_s2 g a k x).2 c j = if c = a then (if j = k then x else g.2 c j) else g.2 c j := by
  unfold m_s2 vp_updL
  dsimp only
  split
  · next h => subst h; rfl
  · rfl
/-- two truth values of one branch each -/
theorem mi_tt {c : Prop} {g : mG} : m_if c (some (some (.int 1), g)) (some (some (.int 0), g)) = some (some (Value.int (b2 c)), g) := by
  by_cases h : c
  · rw [m_if_pos h, b2_t h]
  · rw [m_if_neg h, b2_f h]
theorem mi_ft {c : Prop} {g : mG} : m_if c (some (some (.int 0), g)) (some (some (.int 1), g)) = some (some (Value.int (b2 (¬ c))), g) := by
  by_cases h : c
  · rw [m_if_pos h, b2_f (fun e => e h)]
  · rw [m_if_neg h, b2_t h]
theorem mi_t2 {c e : Prop} {g : mG} : m_if c (some (some (Value.int (b2 e)), g)) (some (some (.int 0), g)) = some (some (Value.int (b2 (c ∧ e))), g) := by
  by_cases h : c
  · rw [m_if_pos h, b2_c (c := c ∧ e) (e := e) ⟨fun x => x.2, fun x => ⟨h, x⟩⟩]
  · rw [m_if_neg h, b2_f (fun x => h x.1)]
theorem mi_f2 {c e : Prop} {g : mG} : m_if c (some (some (.int 0), g)) (some (some (Value.int (b2 e)), g)) = some (some (Value.int (b2 (¬ c ∧ e))), g) := by
  by_cases h : c
  · rw [m_if_pos h, b2_f (fun x => x.1 h)]
  · rw [m_if_neg h, b2_c (c := ¬ c ∧ e) (e := e) ⟨fun x => x.2, fun x => ⟨h, x⟩⟩]
theorem mi_o2 {c e : Prop} {g : mG} : m_if c (some (some (.int 1), g)) (some (some (Value.int (b2 e)), g)) = some (some (Value.int (b2 (c ∨ e))), g) := by
  by_cases h : c
  · rw [m_if_pos h, b2_t (Or.inl h)]
  · rw [m_if_neg h, b2_c (c := c ∨ e) (e := e) ⟨fun x => x.resolve_left h, fun x => Or.inr x⟩]
/-- it comes to an end, and so -/
def Ok (e : Option (Option Value × mG)) (Q : Option Value → mG → Prop) : Prop := ∃ r g, e = some (r, g) ∧ Q r g
theorem ok_some {r : Option Value} {g : mG} {Q : Option Value → mG → Prop} (h : Q r g) : Ok (some (r, g)) Q := ⟨r, g, rfl, h⟩
theorem ok_if {c : Prop} {x y : Option (Option Value × mG)} {Q : Option Value → mG → Prop} (h1 : c → Ok x Q) (h2 : ¬ c → Ok y Q) : Ok (m_if c x y) Q := by
  by_cases h : c
  · rw [m_if_pos h]; exact h1 h
  · rw [m_if_neg h]; exact h2 h
theorem ok_in {i : Int32} {n : Nat} {x : Option (Option Value × mG)} {Q : Option Value → mG → Prop} (h : vp_in i n) (h1 : Ok x Q) : Ok (m_in i n x) Q := by
  rw [mi_in h]; exact h1
theorem ok_bnd {e : Option (Option Value × mG)} {f : Option Value → mG → Option (Option Value × mG)} {P Q : Option Value → mG → Prop} (h : Ok e P) (h2 : ∀ r g, P r g → Ok (f r g) Q) : Ok (m_bnd e f) Q := by
  obtain ⟨r, g, h3, h4⟩ := h
  rw [h3, mb_some]
  exact h2 r g h4
theorem ok_mono {e : Option (Option Value × mG)} {P Q : Option Value → mG → Prop} (h : Ok e P) (h2 : ∀ r g, P r g → Q r g) : Ok e Q := by
  obtain ⟨r, g, h3, h4⟩ := h
  exact ⟨r, g, h3, h2 r g h4⟩
theorem ok_eq {e : Option (Option Value × mG)} {v : Option Value} {g : mG} (h : Ok e (fun r g' => r = v ∧ g' = g)) : e = some (v, g) := by
  obtain ⟨r, g', h3, h4, h5⟩ := h
  rw [h3, h4, h5]
theorem eq_ok {e : Option (Option Value × mG)} {v : Option Value} {g : mG} {Q : Option Value → mG → Prop} (h : e = some (v, g)) (h2 : Q v g) : Ok e Q := ⟨v, g, h, h2⟩
/-- a loop whose number goes up to P -/
theorem ok_loop {A : Type} {E : Nat → A → mG → Option (Option Value × mG)} {I : Nat → A → mG → Prop} {P : Nat} {Q : Option Value → mG → Prop} (hs : ∀ q a g, q < P → I q a g → (∀ a' g', I (q + 1) a' g' → Ok (E (q + 1) a' g') Q) → Ok (E q a g) Q) (he : ∀ a g, I P a g → Ok (E P a g) Q) : ∀ q a g, q ≤ P → I q a g → Ok (E q a g) Q := by
  have main : ∀ k q a g, q + k = P → I q a g → Ok (E q a g) Q := by
    intro k
    induction k with
    | zero =>
      intro q a g h hI
      have e : q = P := by omega
      subst e
      exact he a g hI
    | succ k ih =>
      intro q a g h hI
      exact hs q a g (by omega) hI (fun a' g' h' => ih (q + 1) a' g' (by omega) h')
  intro q a g h hI
  exact main (P - q) q a g (by omega) hI
/-- a loop without calls that changes its state step by step -/
theorem eq_loop {A : Type} {E : Nat → A → mG → Option (Option Value × mG)} {f : Nat → A → mG → A × mG} {P : Nat} : ∀ k q a g, q + k = P → (∀ q a g, q < P → E q a g = E (q + 1) (f q a g).1 (f q a g).2) → ∃ a' g', E q a g = E P a' g' := by
  intro k
  induction k with
  | zero =>
    intro q a g h _
    have e : q = P := by omega
    subst e
    exact ⟨a, g, rfl⟩
  | succ k ih =>
    intro q a g h hs
    obtain ⟨a', g', e⟩ := ih (q + 1) (f q a g).1 (f q a g).2 (by omega) hs
    exact ⟨a', g', (hs q a g (by omega)).trans e⟩
/-- an index below n -/
def ix (n : Nat) (x : Int32) : Prop := ∃ j, j < n ∧ x = nI j
theorem ix_nI {n j : Nat} (h : j < n) : ix n (nI j) := ⟨j, h, rfl⟩
theorem ix_lt {n : Nat} {x : Int32} (hn : n < 2 ^ 31) : (¬ x < 0 ∧ x < nI n) ↔ ix n x := by
  constructor
  · intro ⟨h1, h2⟩
    obtain ⟨j, hj, e⟩ := nI_of h1
    subst e
    exact ⟨j, (nI_ltI hj hn).mp h2, rfl⟩
  · intro ⟨j, hj, e⟩
    subst e
    exact ⟨nI_pos (by omega), nI_lt hj hn⟩
theorem ix_le {n : Nat} {x : Int32} (hn : n < 2 ^ 31) : (¬ x < 0 ∧ ¬ nI n < x) ↔ ix (n + 1) x := by
  constructor
  · intro ⟨h1, h2⟩
    obtain ⟨j, hj, e⟩ := nI_of h1
    subst e
    refine ⟨j, ?_, rfl⟩
    rcases Nat.lt_or_ge j (n + 1) with h | h
    · exact h
    · exact absurd (nI_lt (a := n) (b := j) (by omega) hj) h2
  · intro ⟨j, hj, e⟩
    subst e
    exact ⟨nI_pos (by omega), nI_nlt (by omega) hn⟩
theorem ix_m1 {n : Nat} {x : Int32} (hn : n < 2 ^ 31) : (¬ x < 0 ∧ ¬ (nI n - 1) < x) ↔ ix n x := by
  cases n with
  | zero =>
    constructor
    · intro ⟨h1, h2⟩
      obtain ⟨j, hj, e⟩ := nI_of h1
      subst e
      exfalso
      refine h2 ?_
      rw [Int32.lt_iff_toInt_lt, nI_toInt hj]
      have e : (nI 0 - 1).toInt = -1 := by decide
      rw [e]
      omega
    · intro ⟨j, hj, _⟩
      omega
  | succ m => rw [nI_pred]; exact ix_le (by omega)
theorem ix_n0 {n : Nat} {x : Int32} (h : ix n x) (hn : n < 2 ^ 31) : ¬ x < 0 := ((ix_lt hn).mpr h).1
theorem ix_mono {n m : Nat} {x : Int32} (h : ix n x) (hm : n ≤ m) : ix m x := by
  obtain ⟨j, hj, e⟩ := h
  exact ⟨j, by omega, e⟩
theorem ix_in {n : Nat} {x : Int32} (h : ix n x) (hn : n < 2 ^ 31) : vp_in x n := by
  obtain ⟨j, hj, e⟩ := h
  subst e
  exact vp_in_nI hj hn
theorem ix_cl {n : Nat} {x : Int32} (h : ix n x) (hn : n < 2 ^ 31) : Int32.toNatClampNeg x < n ∧ nI (Int32.toNatClampNeg x) = x := by
  obtain ⟨j, hj, e⟩ := h
  subst e
  rw [nI_clamp (by omega)]
  exact ⟨hj, rfl⟩
theorem b2_ix (c : Prop) : ix 2 (b2 c) := by
  obtain ⟨j, hj, e⟩ := b2_n (c := c)
  exact ⟨j, hj, e⟩
/-- the guards -/
theorem v_X12_in (d : Nat) (g : mG) (x a b : Int32) : ev none d mm_X12_in 0 [.int x, .int a, .int b] [] g = some (some (.int (b2 (¬ x < a ∧ ¬ b < x))), g) := by
  rw [b_X12_in_0, mi_ft, mi_f2]
theorem v_in (d : Nat) (g : mG) (x b : Int32) (n : Nat) (hn : n < 2 ^ 31) (hb : b = nI n - 1) : ev none d mm_X12_in 0 [.int x, .int 0, .int b] [] g = some (some (.int (b2 (ix n x))), g) := by
  rw [v_X12_in, hb, b2_c (ix_m1 hn)]
theorem v_isKind (d : Nat) (g : mG) (x : Int32) : ev none d mm_X11_isKind 0 [.int x] [] g = some (some (.int (b2 (ix 8 x))), g) := by
  rw [b_X11_isKind_0, mi_tt, mi_f2]
  exact congrArg (fun z => some (some (Value.int z), g)) (b2_c (ix_lt (n := 8) (by omega)))
theorem v_isShelf (d : Nat) (g : mG) (x : Int32) : ev none d mm_X11_isShelf 0 [.int x] [] g = some (some (.int (b2 (ix 6 x))), g) := by
  rw [b_X11_isShelf_0, mi_tt, mi_f2]
  exact congrArg (fun z => some (some (Value.int z), g)) (b2_c (ix_lt (n := 6) (by omega)))
theorem v_isPlace (d : Nat) (g : mG) (x : Int32) : ev none d mm_X11_isPlace 0 [.int x] [] g = some (some (.int (b2 (ix 25 x))), g) := by
  rw [b_X11_isPlace_0, mi_tt, mi_f2]
  exact congrArg (fun z => some (some (Value.int z), g)) (b2_c (ix_lt (n := 25) (by omega)))
theorem ix_2 {x : Int32} : (x = 0 ∨ x = 1) ↔ ix 2 x := by
  constructor
  · rintro (h | h)
    · exact ⟨0, by omega, h⟩
    · exact ⟨1, by omega, h⟩
  · intro ⟨j, hj, e⟩
    have : j = 0 ∨ j = 1 := by omega
    rcases this with h | h
    · subst h; exact Or.inl e
    · subst h; exact Or.inr e
theorem v_isBit (d : Nat) (g : mG) (x : Int32) : ev none d mm_X11_isBit 0 [.int x] [] g = some (some (.int (b2 (ix 2 x))), g) := by
  rw [b_X11_isBit_0]
  rw [← b2_c ix_2]
  first
    | rw [mi_tt, mi_o2]
    | (by_cases h0 : x = 0
       · rw [m_if_pos h0, b2_t (Or.inl h0)]
       · rw [m_if_neg h0]
         by_cases h1 : x = 1
         · simp only [m_if_pos h1, b2_t (Or.inr h1 : x = 0 ∨ x = 1)]
         · simp only [m_if_neg h1, b2_f (fun e : x = 0 ∨ x = 1 => e.elim h0 h1)])
theorem v_isPlaceOf (d : Nat) (g : mG) (x : Int32) : ev none (d + 1) mm_X12_isPlaceOf 0 [.int x] [] g = some (some (.int (b2 (ix 25 x))), g) := by
  rw [b_X12_isPlaceOf_0, v_in d g x 24 25 (by omega) rfl, mb_some, mp_some]
  rw [b_X12_isPlaceOf_7, if_pos (b2_and _)]
theorem v_isShelfM (d : Nat) (g : mG) (x : Int32) : ev none (d + 1) mm_X12_isShelf 0 [.int x] [] g = some (some (.int (b2 (ix 6 x))), g) := by
  rw [b_X12_isShelf_0, v_in d g x 5 6 (by omega) rfl, mb_some, mp_some]
  rw [b_X12_isShelf_6, if_pos (b2_and _)]
theorem v_isOne (d : Nat) (g : mG) (x : Int32) (n : Nat) (hn : n < 2 ^ 31) (h : g.1 55 1 = nI n) : ev none (d + 1) mm_X12_isOne 0 [.ref 55, .int x] [] g = some (some (.int (b2 (ix n x))), g) := by
  rw [b_X12_isOne_0, v_in d g x (g.1 55 1 - 1) n (by omega) (by rw [h]), mb_some, mp_some]
  rw [b_X12_isOne_11, if_pos (b2_and _)]
theorem v_isPromise (d : Nat) (g : mG) (x : Int32) (n : Nat) (hn : n < 2 ^ 31) (h : g.1 55 4 = nI n) : ev none (d + 1) mm_X12_isPromise 0 [.ref 55, .int x] [] g = some (some (.int (b2 (ix n x))), g) := by
  rw [b_X12_isPromise_0, v_in d g x (g.1 55 4 - 1) n (by omega) (by rw [h]), mb_some, mp_some]
  rw [b_X12_isPromise_11, if_pos (b2_and _)]
theorem v_isBody (d : Nat) (g : mG) (x : Int32) (n : Nat) (hn : n < 2 ^ 31) (h : g.1 55 59 = nI n) : ev none (d + 1) mm_X12_isBody 0 [.ref 55, .int x] [] g = some (some (.int (b2 (ix n x))), g) := by
  rw [b_X12_isBody_0, v_in d g x (g.1 55 59 - 1) n (by omega) (by rw [h]), mb_some, mp_some]
  rw [b_X12_isBody_11, if_pos (b2_and _)]
theorem v_hasPerson (d : Nat) (g : mG) (x : Int32) (n : Nat) (hn : n < 2 ^ 31) (h : g.1 1 12 = nI n) : ev none d mm_X9_hasPerson 0 [.ref 1, .int x] [] g = some (some (.int (b2 (ix n x))), g) := by
  rw [b_X9_hasPerson_0, mi_tt, mi_f2, h, b2_c (ix_lt hn)]
theorem v_hasPromise (d : Nat) (g : mG) (x : Int32) (n : Nat) (hn : n < 2 ^ 31) (h : g.1 1 13 = nI n) : ev none d mm_X9_hasPromise 0 [.ref 1, .int x] [] g = some (some (.int (b2 (ix n x))), g) := by
  rw [b_X9_hasPromise_0, mi_tt, mi_f2, h, b2_c (ix_lt hn)]
theorem v_hasBody (d : Nat) (g : mG) (x : Int32) (n : Nat) (hn : n < 2 ^ 31) (h : g.1 39 2 = nI n) : ev none d mm_X0_has 0 [.ref 39, .int x] [] g = some (some (.int (b2 (ix n x))), g) := by
  rw [b_X0_has_0, mi_tt, mi_f2, h, b2_c (ix_lt hn)]
/-- cells that may be changed in between -/
def Fr (S : Nat → Nat → Bool) (g g' : mG) : Prop := (∀ c k, S c k = false → g'.1 c k = g.1 c k) ∧ ∀ c k, S c k = false → g'.2 c k = g.2 c k
theorem fr_refl {S : Nat → Nat → Bool} {g : mG} : Fr S g g := ⟨fun _ _ _ => rfl, fun _ _ _ => rfl⟩
theorem fr_trans {S : Nat → Nat → Bool} {g g1 g2 : mG} (h1 : Fr S g g1) (h2 : Fr S g1 g2) : Fr S g g2 := ⟨fun c k h => (h2.1 c k h).trans (h1.1 c k h), fun c k h => (h2.2 c k h).trans (h1.2 c k h)⟩
theorem fr_mono {S S2 : Nat → Nat → Bool} {g g' : mG} (h : Fr S g g') (h2 : ∀ c k, S2 c k = false → S c k = false) : Fr S2 g g' := ⟨fun c k e => h.1 c k (h2 c k e), fun c k e => h.2 c k (h2 c k e)⟩
theorem fr_s1 {S : Nat → Nat → Bool} {g g' : mG} {a k : Nat} {x : Int32} (h : Fr S g g') (hs : S a k = true) : Fr S g (m_s1 g' a k x) := by
  refine ⟨fun c j e => ?_, h.2⟩
  rw [s1_r]
  split
  · next h1 =>
    split
    · next h2 =>
      subst h1; subst h2
      rw [hs] at e
      exact absurd e (by decide)
    · exact h.1 c j e
  · exact h.1 c j e
theorem fr_s2 {S : Nat → Nat → Bool} {g g' : mG} {a k : Nat} {x : Int64} (h : Fr S g g') (hs : S a k = true) : Fr S g (m_s2 g' a k x) := by
  refine ⟨h.1, fun c j e => ?_⟩
  rw [s2_r]
  split
  · next h1 =>
    split
    · next h2 =>
      subst h1; subst h2
      rw [hs] at e
      exact absurd e (by decide)
    · exact h.2 c j e
  · exact h.2 c j e
/-- facts, stacks -/
def s1 (c _k : Nat) : Bool := c == 11 || c == 14 || c == 77 || c == 78
/-- and the moment -/
def s2 (c k : Nat) : Bool := s1 c k || c == 15
/-- all that no answer rests on between calls -/
def sA (c k : Nat) : Bool := s2 c k || (c == 16 && (k == 3 || k == 4)) || c == 18 || (19 ≤ c && c ≤ 29) || (c == 39 && k == 4) || (c == 55 && ((24 ≤ k && k ≤ 27) || k == 36 || k == 37 || k == 40 || (43 ≤ k && k ≤ 49))) || ((c == 72 || c == 73) && 130 ≤ k) || (c == 74 && k == 1) || ((c == 75 || c == 76) && 61 ≤ k) || (79 ≤ c && c ≤ 82) || c == 93
theorem s12 {c k : Nat} (h : s2 c k = false) : s1 c k = false := by
  unfold s2 at h
  exact (Bool.or_eq_false_iff.mp h).1
theorem sA2 {c k : Nat} (h : sA c k = false) : s2 c k = false := by
  unfold sA at h
  simp only [Bool.or_eq_false_iff] at h
  exact h.1.1.1.1.1.1.1.1.1.1
theorem fr_12 {g g' : mG} (h : Fr s1 g g') : Fr s2 g g' := fr_mono h (fun _ _ e => s12 e)
theorem fr_2A {g g' : mG} (h : Fr s2 g g') : Fr sA g g' := fr_mono h (fun _ _ e => sA2 e)
theorem fr_1A {g g' : mG} (h : Fr s1 g g') : Fr sA g g' := fr_2A (fr_12 h)
