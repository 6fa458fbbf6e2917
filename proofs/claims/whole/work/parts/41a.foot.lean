/-! OPERATIONS (8): image and back -/
/-- what each part of the invariant reads -/
def tT (c k : Nat) : Prop := (1 ≤ c ∧ c ≤ 10) ∨ (c = 55 ∧ (k = 1 ∨ k = 4 ∨ k = 13 ∨ k = 14)) ∨ (56 ≤ c ∧ c ≤ 66)
def tC (c k : Nat) : Prop := (30 ≤ c ∧ c ≤ 34) ∨ (c = 55 ∧ (k = 16 ∨ k = 17)) ∨ (67 ≤ c ∧ c ≤ 70)
def tP (c k : Nat) : Prop := (c = 16 ∧ k = 2) ∨ c = 17 ∨ (c = 55 ∧ k = 23) ∨ c = 71
def tL (c k : Nat) : Prop := (c = 12 ∧ k = 2) ∨ c = 13 ∨ (c = 55 ∧ k = 35) ∨ ((c = 72 ∨ c = 73) ∧ k < 130) ∨ (c = 74 ∧ k = 0) ∨ ((c = 75 ∨ c = 76) ∧ k < 61)
def tG (c k : Nat) : Prop := (35 ≤ c ∧ c ≤ 38) ∨ (c = 55 ∧ 50 ≤ k ∧ k ≤ 53) ∨ (83 ≤ c ∧ c ≤ 87)
def tB (c k : Nat) : Prop := (c = 39 ∧ (k = 2 ∨ k = 3)) ∨ c = 40 ∨ c = 41 ∨ (c = 55 ∧ (k = 59 ∨ k = 61)) ∨ c = 88 ∨ c = 89
def tS (c _k : Nat) : Prop := (43 ≤ c ∧ c ≤ 54) ∨ c = 90 ∨ c = 91 ∨ c = 92
theorem V_t {n p : Nat} {g g' : mG} (e : ∀ c k, tT c k → g'.1 c k = g.1 c k) (h : V n p g.1) : V n p g'.1 := by
  unfold tT at e
  unfold V
  simp only [e 55 1 (by omega), e 55 4 (by omega), (show ∀ k, g'.1 56 k = g.1 56 k from fun k => e 56 k (by omega)), (show ∀ k, g'.1 57 k = g.1 57 k from fun k => e 57 k (by omega)), (show ∀ k, g'.1 58 k = g.1 58 k from fun k => e 58 k (by omega)), (show ∀ k, g'.1 59 k = g.1 59 k from fun k => e 59 k (by omega)), (show ∀ k, g'.1 60 k = g.1 60 k from fun k => e 60 k (by omega)), (show ∀ k, g'.1 61 k = g.1 61 k from fun k => e 61 k (by omega)), (show ∀ k, g'.1 62 k = g.1 62 k from fun k => e 62 k (by omega)), (show ∀ k, g'.1 63 k = g.1 63 k from fun k => e 63 k (by omega)), (show ∀ k, g'.1 64 k = g.1 64 k from fun k => e 64 k (by omega)), (show ∀ k, g'.1 65 k = g.1 65 k from fun k => e 65 k (by omega)), e 55 13 (by omega), e 55 14 (by omega)]
  exact h
theorem RX_t {n p : Nat} {g g' : mG} (e : ∀ c k, tT c k → g'.1 c k = g.1 c k) (hR : RX n p g.1 g) : RX n p g'.1 g' := by
  unfold tT at e
  have e4 : g'.1 64 = g.1 64 := funext fun k => e 64 k (by omega)
  have e5 : g'.1 65 = g.1 65 := funext fun k => e 65 k (by omega)
  unfold RX
  simp only [(show ∀ k, g'.1 1 k = g.1 1 k from fun k => e 1 k (by omega)), (show ∀ k, g'.1 2 k = g.1 2 k from fun k => e 2 k (by omega)), (show ∀ k, g'.1 3 k = g.1 3 k from fun k => e 3 k (by omega)), (show ∀ k, g'.1 10 k = g.1 10 k from fun k => e 10 k (by omega)), (show ∀ k, g'.1 4 k = g.1 4 k from fun k => e 4 k (by omega)), (show ∀ k, g'.1 5 k = g.1 5 k from fun k => e 5 k (by omega)), (show ∀ k, g'.1 6 k = g.1 6 k from fun k => e 6 k (by omega)), (show ∀ k, g'.1 7 k = g.1 7 k from fun k => e 7 k (by omega)), (show ∀ k, g'.1 8 k = g.1 8 k from fun k => e 8 k (by omega)), (show ∀ k, g'.1 9 k = g.1 9 k from fun k => e 9 k (by omega)), (show ∀ k, g'.1 56 k = g.1 56 k from fun k => e 56 k (by omega)), (show ∀ k, g'.1 57 k = g.1 57 k from fun k => e 57 k (by omega)), (show ∀ k, g'.1 58 k = g.1 58 k from fun k => e 58 k (by omega)), (show ∀ k, g'.1 59 k = g.1 59 k from fun k => e 59 k (by omega)), (show ∀ k, g'.1 60 k = g.1 60 k from fun k => e 60 k (by omega)), (show ∀ k, g'.1 61 k = g.1 61 k from fun k => e 61 k (by omega)), (show ∀ k, g'.1 62 k = g.1 62 k from fun k => e 62 k (by omega)), (show ∀ k, g'.1 63 k = g.1 63 k from fun k => e 63 k (by omega)), e4, e5, (show ∀ k, g'.1 66 k = g.1 66 k from fun k => e 66 k (by omega)), e 55 13 (by omega), e 55 14 (by omega)]
  exact hR
theorem C_t {n p : Nat} {g g' : mG} (e : ∀ c k, tC c k → g'.1 c k = g.1 c k) (h : I_C n p g) : I_C n p g' := by
  unfold tC at e
  unfold I_C
  simp only [(show ∀ k, g'.1 30 k = g.1 30 k from fun k => e 30 k (by omega)), e 55 16 (by omega), e 55 17 (by omega), (show ∀ k, g'.1 31 k = g.1 31 k from fun k => e 31 k (by omega)), (show ∀ k, g'.1 32 k = g.1 32 k from fun k => e 32 k (by omega)), (show ∀ k, g'.1 33 k = g.1 33 k from fun k => e 33 k (by omega)), (show ∀ k, g'.1 34 k = g.1 34 k from fun k => e 34 k (by omega)), (show ∀ k, g'.1 67 k = g.1 67 k from fun k => e 67 k (by omega)), (show ∀ k, g'.1 68 k = g.1 68 k from fun k => e 68 k (by omega)), (show ∀ k, g'.1 69 k = g.1 69 k from fun k => e 69 k (by omega)), (show ∀ k, g'.1 70 k = g.1 70 k from fun k => e 70 k (by omega))]
  exact h
theorem P_t {g g' : mG} (e : ∀ c k, tP c k → g'.1 c k = g.1 c k) (h : I_P g) : I_P g' := by
  unfold tP at e
  unfold I_P
  simp only [e 16 2 (by omega), e 55 23 (by omega), (show ∀ k, g'.1 17 k = g.1 17 k from fun k => e 17 k (by omega)), (show ∀ k, g'.1 71 k = g.1 71 k from fun k => e 71 k (by omega))]
  exact h
theorem L_t {W : mW} {g g' : mG} (e : ∀ c k, tL c k → g'.1 c k = g.1 c k) (h : I_L W g) : I_L W g' := by
  unfold tL at e
  unfold I_L
  rw [e 12 2 (by omega), e 55 35 (by omega)]
  rcases h with h | ⟨h1, h2, h3, h4⟩
  · exact Or.inl h
  · exact Or.inr ⟨h1, h2, XL_fr (e 12 2 (by omega)) (fun k => e 13 k (by omega)) h3, ML_fr (fun k hk => ⟨e 72 k (by omega), e 73 k (by omega)⟩) (e 74 0 (by omega)) (fun k hk => ⟨e 75 k (by omega), e 76 k (by omega)⟩) h4⟩
theorem G_t {n p : Nat} {g g' : mG} (e : ∀ c k, tG c k → g'.1 c k = g.1 c k) (h : I_G n p g) : I_G n p g' := by
  unfold tG at e
  unfold I_G
  simp only [(show ∀ k, g'.1 35 k = g.1 35 k from fun k => e 35 k (by omega)), e 55 50 (by omega), e 55 51 (by omega), e 55 52 (by omega), e 55 53 (by omega), (show ∀ k, g'.1 36 k = g.1 36 k from fun k => e 36 k (by omega)), (show ∀ k, g'.1 37 k = g.1 37 k from fun k => e 37 k (by omega)), (show ∀ k, g'.1 38 k = g.1 38 k from fun k => e 38 k (by omega)), (show ∀ k, g'.1 83 k = g.1 83 k from fun k => e 83 k (by omega)), (show ∀ k, g'.1 84 k = g.1 84 k from fun k => e 84 k (by omega)), (show ∀ k, g'.1 85 k = g.1 85 k from fun k => e 85 k (by omega)), (show ∀ k, g'.1 86 k = g.1 86 k from fun k => e 86 k (by omega)), (show ∀ k, g'.1 87 k = g.1 87 k from fun k => e 87 k (by omega))]
  exact h
theorem B_t {nb : Nat} {g g' : mG} (e : ∀ c k, tB c k → g'.1 c k = g.1 c k) (h : I_B nb g) : I_B nb g' := by
  unfold tB at e
  unfold I_B
  simp only [e 39 2 (by omega), e 55 59 (by omega), e 39 3 (by omega), e 55 61 (by omega), (show ∀ k, g'.1 40 k = g.1 40 k from fun k => e 40 k (by omega)), (show ∀ k, g'.1 88 k = g.1 88 k from fun k => e 88 k (by omega)), (show ∀ k, g'.1 41 k = g.1 41 k from fun k => e 41 k (by omega)), (show ∀ k, g'.1 89 k = g.1 89 k from fun k => e 89 k (by omega))]
  exact h
theorem S_t {nb : Nat} {g g' : mG} (e : ∀ c k, tS c k → g'.1 c k = g.1 c k) (e2 : ∀ c k, tS c k → g'.2 c k = g.2 c k) (h : I_S nb g) : I_S nb g' := by
  unfold tS at e e2
  intro s hs
  have e3 : g'.2 (44 + 2 * s) = g.2 (44 + 2 * s) := funext fun k => e2 (44 + 2 * s) k (by omega)
  have e4 : g'.2 92 = g.2 92 := funext fun k => e2 92 k (by omega)
  rw [e (43 + 2 * s) 1 (by omega), e (43 + 2 * s) 2 (by omega), e (43 + 2 * s) 3 (by omega), e3, e4, e 90 s (by omega), e 91 s (by omega)]
  exact h s hs
