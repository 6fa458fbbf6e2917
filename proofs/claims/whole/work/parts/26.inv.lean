/-! THE MATHEMATICS (3): what holds between calls -/
/-- an int whose bits a row tells -/
def BT (x : Int32) (f : Nat → Int32) : Prop := ∃ F, F < 4096 ∧ x = nI F ∧ ∀ i, i < 12 → f i = b2 (F.testBit i = true)
/-- the model's town is sound -/
def V (n p : Nat) (h : Nat → Nat → Int32) : Prop := n ≤ 6 ∧ p ≤ 12 ∧ h 55 1 = nI n ∧ h 55 4 = nI p ∧ (∀ i, i < n → ix 25 (h 56 i) ∧ ix 10 (h 57 i)) ∧ (∀ i, i < p → ix n (h 58 i) ∧ ix n (h 59 i) ∧ ix 25 (h 60 i) ∧ ix 10 (h 61 i) ∧ ix 100 (h 62 i) ∧ ix 100 (h 63 i)) ∧ (∀ i, i < 12 → ix 2 (h 64 i) ∧ ix 2 (h 65 i)) ∧ (∀ i, p ≤ i → i < 12 → h 64 i = 0 ∧ h 65 i = 0) ∧ ix 10 (h 55 13) ∧ ix 100 (h 55 14)
/-- the class's town is the picture h -/
def RX (n p : Nat) (h : Nat → Nat → Int32) (g : mG) : Prop := g.1 1 12 = nI n ∧ g.1 1 13 = nI p ∧ (∀ i, i < 6 → g.1 2 i = h 56 i ∧ g.1 3 i = h 57 i ∧ g.1 10 i = h 66 i) ∧ (∀ i, i < 12 → g.1 4 i = h 58 i ∧ g.1 5 i = h 59 i ∧ g.1 6 i = h 60 i ∧ g.1 7 i = h 61 i ∧ g.1 8 i = h 62 i ∧ g.1 9 i = h 63 i) ∧ BT (g.1 1 14) (h 64) ∧ BT (g.1 1 15) (h 65) ∧ g.1 1 16 = h 55 13 ∧ g.1 1 17 = h 55 14
/-- how many values a mended number may have -/
def mx : Nat → Nat
  | 0 => 25
  | 1 => 10
  | 2 => 25
  | 3 => 10
  | 4 => 100
  | 5 => 100
  | 6 => 2
  | 7 => 2
  | 8 => 10
  | _ => 100
/-- a change that may stand -/
def CE (n p : Nat) (f a x y : Int32) : Prop := ∃ w, w < 10 ∧ f = nI w ∧ (w < 2 → ix n a) ∧ (2 ≤ w → w < 8 → ix p a) ∧ (8 ≤ w → a = 0) ∧ ix (mx w) x ∧ ix (mx w) y
def I_C (n p : Nat) (g : mG) : Prop := ∃ dn un, dn + un ≤ 40 ∧ g.1 30 5 = nI dn ∧ g.1 30 6 = nI (dn + un) ∧ g.1 55 16 = nI dn ∧ g.1 55 17 = nI un ∧ ∀ i, i < dn + un → g.1 31 i = g.1 68 i ∧ g.1 32 i = g.1 67 i ∧ g.1 33 i = g.1 69 i ∧ g.1 34 i = g.1 70 i ∧ CE n p (g.1 67 i) (g.1 68 i) (g.1 69 i) (g.1 70 i)
def I_P (g : mG) : Prop := ∃ L, L ≤ 120 ∧ g.1 16 2 = nI L ∧ g.1 55 23 = nI L ∧ ∀ i, i < L → ∃ b, b < 256 ∧ g.1 17 i = nI b ∧ g.1 71 i = (nI b).toInt8.toInt32
/-- a law: six facts give a number -/
abbrev mW := Int32 → Int32 → Int32 → Int32 → Int32 → Int32 → Int32
def wf (W : mW) (f : Nat → Int32) : Int32 := W (f 0) (f 1) (f 2) (f 3) (f 4) (f 5)
/-- the class works out W -/
def XL (W : mW) (g : mG) : Prop := ∀ d g', g'.1 12 2 = g.1 12 2 → (∀ k, g'.1 13 k = g.1 13 k) → Ok (ev none (d + 2) mm_X3_worth 0 [.ref 12, .ref 11, .null, .null, .null] [] g') (fun r g2 => r = some (.int (wf W (g'.1 11))) ∧ Fr s1 g' g2)
/-- the model works out W -/
def ML (W : mW) (g : mG) : Prop := ∀ d g', (∀ k, k < 130 → g'.1 72 k = g.1 72 k ∧ g'.1 73 k = g.1 73 k) → g'.1 74 0 = g.1 74 0 → (∀ k, k < 61 → g'.1 75 k = g.1 75 k ∧ g'.1 76 k = g.1 76 k) → Ok (ev none (d + 2) mm_X12_gives 0 [.ref 55, .int 0, .null, .null] [] g') (fun r g2 => r = some (.int (wf W (g'.1 77))) ∧ Fr s1 g' g2)
/-- without a law -/
def W0 : mW := fun w l _ _ f _ => w / 2 + (if l < 3 then 1 else 0) - 3 * f
def I_L (W : mW) (g : mG) : Prop := (g.1 12 2 = 0 ∧ g.1 55 35 = 0 ∧ W = W0) ∨ (0 < g.1 12 2 ∧ g.1 55 35 = 1 ∧ XL W g ∧ ML W g)
def I_G (n p : Nat) (g : mG) : Prop := (g.1 35 8 = 0 ∧ g.1 55 50 = 0) ∨ (g.1 35 8 = 1 ∧ g.1 55 50 = 1 ∧ ∃ kn kp F G, kn ≤ n ∧ kp ≤ p ∧ F < 4096 ∧ G < 4096 ∧ g.1 35 3 = nI kn ∧ g.1 35 4 = nI kp ∧ g.1 35 5 = nI F ∧ g.1 35 6 = nI G ∧ g.1 55 52 = nI kn ∧ g.1 55 53 = nI kp ∧ g.1 35 7 = g.1 55 51 ∧ ix 100 (g.1 55 51) ∧ (∀ i, i < kn → g.1 36 i = g.1 83 i ∧ ix 25 (g.1 83 i) ∧ g.1 37 i = g.1 84 i ∧ ix 10 (g.1 84 i)) ∧ (∀ i, i < kp → g.1 85 i = b2 (F.testBit i = true) ∧ g.1 86 i = b2 (G.testBit i = true)) ∧ ∀ i, i < 6 → g.1 38 i = g.1 87 i)
def I_B (nb : Nat) (g : mG) : Prop := ∃ r, nb ≤ 50 ∧ r < 1000 ∧ g.1 39 2 = nI nb ∧ g.1 55 59 = nI nb ∧ g.1 39 3 = nI r ∧ g.1 55 61 = nI r ∧ (∀ i, i < nb → g.1 40 i = g.1 88 i ∧ ix 8 (g.1 88 i)) ∧ ∀ i, i < 24 → g.1 41 i = g.1 89 i
/-- one shelf -/
def SH (nb s : Nat) (body sort len : Int32) (el : Nat → Int64) (hold size : Int32) (els : Nat → Int64) : Prop := (body = -1 ∧ sort = -1 ∧ hold = -1) ∨ (∃ b, b < nb ∧ body = nI b ∧ sort = -1 ∧ hold = nI b) ∨ (∃ t L, t < 5 ∧ L ≤ 60 ∧ body = -1 ∧ sort = nI t ∧ len = nI L ∧ hold = -2 - nI t ∧ size = nI L ∧ (∀ i, i < L → el i = els (60 * s + i)) ∧ (t = 0 → ∀ i, i < L → ∃ z : Int8, el i = z.toInt64))
def I_S (nb : Nat) (g : mG) : Prop := ∀ s, s < 6 → SH nb s (g.1 (43 + 2 * s) 1) (g.1 (43 + 2 * s) 2) (g.1 (43 + 2 * s) 3) (g.2 (44 + 2 * s)) (g.1 90 s) (g.1 91 s) (g.2 92)
/-- all that holds between calls -/
def Inv (g : mG) : Prop := ∃ n p nb W, V n p g.1 ∧ RX n p g.1 g ∧ I_C n p g ∧ I_P g ∧ I_L W g ∧ I_G n p g ∧ I_B nb g ∧ I_S nb g
/-- shelves -/
def sS (c _k : Nat) : Bool := (43 ≤ c && c ≤ 54) || c == 90 || c == 91 || c == 92
def sAS (c k : Nat) : Bool := sA c k || sS c k
theorem fr_AS {g g' : mG} (h : Fr sA g g') : Fr sAS g g' := fr_mono h (fun c k e => by
  unfold sAS at e
  exact (Bool.or_eq_false_iff.mp e).1)
theorem fr_SS {g g' : mG} (h : Fr sS g g') : Fr sAS g g' := fr_mono h (fun c k e => by
  unfold sAS at e
  exact (Bool.or_eq_false_iff.mp e).2)
theorem V_fr {n p : Nat} {g g' : mG} (F : Fr sAS g g') (h : V n p g.1) : V n p g'.1 := by
  have e := F.1
  unfold V
  simp only [e 55 1 rfl, e 55 4 rfl, e 56 _ rfl, e 57 _ rfl, e 58 _ rfl, e 59 _ rfl, e 60 _ rfl, e 61 _ rfl, e 62 _ rfl, e 63 _ rfl, e 64 _ rfl, e 65 _ rfl, e 55 13 rfl, e 55 14 rfl]
  exact h
theorem RX_fr1 {n p : Nat} {h : Nat → Nat → Int32} {g g' : mG} (F : Fr sAS g g') (hR : RX n p h g) : RX n p h g' := by
  have e := F.1
  unfold RX
  simp only [e 1 12 rfl, e 1 13 rfl, e 2 _ rfl, e 3 _ rfl, e 10 _ rfl, e 4 _ rfl, e 5 _ rfl, e 6 _ rfl, e 7 _ rfl, e 8 _ rfl, e 9 _ rfl, e 1 14 rfl, e 1 15 rfl, e 1 16 rfl, e 1 17 rfl]
  exact hR
theorem RX_fr {n p : Nat} {g g' : mG} (F : Fr sAS g g') (hR : RX n p g.1 g) : RX n p g'.1 g' := by
  have e := F.1
  have e4 : g'.1 64 = g.1 64 := funext fun k => e 64 k rfl
  have e5 : g'.1 65 = g.1 65 := funext fun k => e 65 k rfl
  unfold RX
  simp only [e 1 12 rfl, e 1 13 rfl, e 2 _ rfl, e 3 _ rfl, e 10 _ rfl, e 4 _ rfl, e 5 _ rfl, e 6 _ rfl, e 7 _ rfl, e 8 _ rfl, e 9 _ rfl, e 1 14 rfl, e 1 15 rfl, e 1 16 rfl, e 1 17 rfl, e 56 _ rfl, e 57 _ rfl, e 58 _ rfl, e 59 _ rfl, e 60 _ rfl, e 61 _ rfl, e 62 _ rfl, e 63 _ rfl, e4, e5, e 66 _ rfl, e 55 13 rfl, e 55 14 rfl]
  exact hR
theorem C_fr {n p : Nat} {g g' : mG} (F : Fr sAS g g') (h : I_C n p g) : I_C n p g' := by
  have e := F.1
  unfold I_C
  simp only [e 30 5 rfl, e 30 6 rfl, e 55 16 rfl, e 55 17 rfl, e 31 _ rfl, e 32 _ rfl, e 33 _ rfl, e 34 _ rfl, e 67 _ rfl, e 68 _ rfl, e 69 _ rfl, e 70 _ rfl]
  exact h
theorem P_fr {g g' : mG} (F : Fr sAS g g') (h : I_P g) : I_P g' := by
  have e := F.1
  unfold I_P
  simp only [e 16 2 rfl, e 55 23 rfl, e 17 _ rfl, e 71 _ rfl]
  exact h
theorem XL_fr {W : mW} {g g' : mG} (h1 : g'.1 12 2 = g.1 12 2) (h2 : ∀ k, g'.1 13 k = g.1 13 k) (h : XL W g) : XL W g' := by
  intro d g2 e1 e2
  exact h d g2 (e1.trans h1) (fun k => (e2 k).trans (h2 k))
theorem ML_fr {W : mW} {g g' : mG} (h1 : ∀ k, k < 130 → g'.1 72 k = g.1 72 k ∧ g'.1 73 k = g.1 73 k) (h2 : g'.1 74 0 = g.1 74 0) (h3 : ∀ k, k < 61 → g'.1 75 k = g.1 75 k ∧ g'.1 76 k = g.1 76 k) (h : ML W g) : ML W g' := by
  intro d g2 e1 e2 e3
  exact h d g2 (fun k hk => ⟨(e1 k hk).1.trans (h1 k hk).1, (e1 k hk).2.trans (h1 k hk).2⟩) (e2.trans h2) (fun k hk => ⟨(e3 k hk).1.trans (h3 k hk).1, (e3 k hk).2.trans (h3 k hk).2⟩)
theorem sAS72 {k : Nat} (h : k < 130) : sAS 72 k = false ∧ sAS 73 k = false := by
  have e : ¬ 130 ≤ k := by omega
  constructor <;> simp [sAS, sS, sA, s2, s1, e]
theorem sAS75 {k : Nat} (h : k < 61) : sAS 75 k = false ∧ sAS 76 k = false := by
  have e : ¬ 61 ≤ k := by omega
  constructor <;> simp [sAS, sS, sA, s2, s1, e]
theorem L_fr {W : mW} {g g' : mG} (F : Fr sAS g g') (h : I_L W g) : I_L W g' := by
  have e := F.1
  unfold I_L
  rw [e 12 2 rfl, e 55 35 rfl]
  rcases h with h | ⟨h1, h2, h3, h4⟩
  · exact Or.inl h
  · exact Or.inr ⟨h1, h2, XL_fr (e 12 2 rfl) (fun k => e 13 k rfl) h3, ML_fr (fun k hk => ⟨e 72 k (sAS72 hk).1, e 73 k (sAS72 hk).2⟩) (e 74 0 rfl) (fun k hk => ⟨e 75 k (sAS75 hk).1, e 76 k (sAS75 hk).2⟩) h4⟩
theorem G_fr {n p : Nat} {g g' : mG} (F : Fr sAS g g') (h : I_G n p g) : I_G n p g' := by
  have e := F.1
  unfold I_G
  simp only [e 35 8 rfl, e 55 50 rfl, e 35 3 rfl, e 35 4 rfl, e 35 5 rfl, e 35 6 rfl, e 35 7 rfl, e 55 51 rfl, e 55 52 rfl, e 55 53 rfl, e 36 _ rfl, e 37 _ rfl, e 38 _ rfl, e 83 _ rfl, e 84 _ rfl, e 85 _ rfl, e 86 _ rfl, e 87 _ rfl]
  exact h
theorem B_fr {nb : Nat} {g g' : mG} (F : Fr sAS g g') (h : I_B nb g) : I_B nb g' := by
  have e := F.1
  unfold I_B
  simp only [e 39 2 rfl, e 55 59 rfl, e 39 3 rfl, e 55 61 rfl, e 40 _ rfl, e 88 _ rfl, e 41 _ rfl, e 89 _ rfl]
  exact h
theorem lt6 {s : Nat} {P : Nat → Prop} (h : s < 6) (h0 : P 0) (h1 : P 1) (h2 : P 2) (h3 : P 3) (h4 : P 4) (h5 : P 5) : P s := by
  match s, h with
  | 0, _ => exact h0
  | 1, _ => exact h1
  | 2, _ => exact h2
  | 3, _ => exact h3
  | 4, _ => exact h4
  | 5, _ => exact h5
theorem sA43 {s k : Nat} (h : s < 6) : sA (43 + 2 * s) k = false ∧ sA (44 + 2 * s) k = false := lt6 (P := fun s => sA (43 + 2 * s) k = false ∧ sA (44 + 2 * s) k = false) h ⟨rfl, rfl⟩ ⟨rfl, rfl⟩ ⟨rfl, rfl⟩ ⟨rfl, rfl⟩ ⟨rfl, rfl⟩ ⟨rfl, rfl⟩
theorem S_fr {nb : Nat} {g g' : mG} (F : Fr sA g g') (h : I_S nb g) : I_S nb g' := by
  intro s hs
  have e := F.1
  have e2 : g'.2 (44 + 2 * s) = g.2 (44 + 2 * s) := funext fun k => F.2 _ k (sA43 hs).2
  have e3 : g'.2 92 = g.2 92 := funext fun k => F.2 _ k rfl
  rw [e _ 1 (sA43 hs).1, e _ 2 (sA43 hs).1, e _ 3 (sA43 hs).1, e2, e3, e 90 s rfl, e 91 s rfl]
  exact h s hs
theorem inv_fr {g g' : mG} (F : Fr sA g g') (h : Inv g) : Inv g' := by
  obtain ⟨n, p, nb, W, h1, h2, h3, h4, h5, h6, h7, h8⟩ := h
  have F2 := fr_AS F
  exact ⟨n, p, nb, W, V_fr F2 h1, RX_fr F2 h2, C_fr F2 h3, P_fr F2 h4, L_fr F2 h5, G_fr F2 h6, B_fr F2 h7, S_fr F h8⟩
/-- as it begins -/
theorem g0_f : g0.1 1 12 = 0 ∧ g0.1 1 13 = 0 ∧ g0.1 1 14 = 0 ∧ g0.1 1 15 = 0 ∧ g0.1 1 16 = 3 ∧ g0.1 1 17 = 0 ∧ g0.1 55 1 = 0 ∧ g0.1 55 4 = 0 ∧ g0.1 55 13 = 3 ∧ g0.1 55 14 = 0 ∧ g0.1 30 5 = 0 ∧ g0.1 30 6 = 0 ∧ g0.1 55 16 = 0 ∧ g0.1 55 17 = 0 ∧ g0.1 16 2 = 0 ∧ g0.1 55 23 = 0 ∧ g0.1 12 2 = 0 ∧ g0.1 55 35 = 0 ∧ g0.1 35 8 = 0 ∧ g0.1 55 50 = 0 ∧ g0.1 39 2 = 0 ∧ g0.1 55 59 = 0 ∧ g0.1 39 3 = 0 ∧ g0.1 55 61 = 0 := by decide +kernel
theorem g0_6 : ∀ i, i < 6 → g0.1 2 i = g0.1 56 i ∧ g0.1 3 i = g0.1 57 i ∧ g0.1 10 i = g0.1 66 i := by decide +kernel
theorem g0_12 : ∀ i, i < 12 → g0.1 4 i = g0.1 58 i ∧ g0.1 5 i = g0.1 59 i ∧ g0.1 6 i = g0.1 60 i ∧ g0.1 7 i = g0.1 61 i ∧ g0.1 8 i = g0.1 62 i ∧ g0.1 9 i = g0.1 63 i := by decide +kernel
theorem g0_b : ∀ i, i < 12 → g0.1 64 i = 0 ∧ g0.1 65 i = 0 := by decide +kernel
theorem g0_s : ∀ s, s < 6 → g0.1 (43 + 2 * s) 1 = -1 ∧ g0.1 (43 + 2 * s) 2 = -1 ∧ g0.1 90 s = -1 := by decide +kernel
theorem g0_t : ∀ i, i < 24 → g0.1 41 i = g0.1 89 i := by decide +kernel
theorem inv_g0 : Inv g0 := by
  obtain ⟨f1, f2, f3, f4, f5, f6, f7, f8, f9, f10, f11, f12, f13, f14, f15, f16, f17, f18, f19, f20, f21, f22, f23, f24⟩ := g0_f
  have i0 : ∀ {m : Nat} {x : Int32}, 0 < m → x = 0 → ix m x := fun hm e => ⟨0, hm, e⟩
  have bt : ∀ {x : Int32} {f : Nat → Int32}, x = 0 → (∀ i, i < 12 → f i = 0) → BT x f := fun e h => ⟨0, by omega, e, fun i hi => by rw [h i hi, b2_f (by rw [Nat.zero_testBit]; decide)]⟩
  refine ⟨0, 0, 0, W0, ⟨by omega, by omega, f7, f8, fun i h => absurd h (by omega), fun i h => absurd h (by omega), fun i h => ⟨i0 (by omega) (g0_b i h).1, i0 (by omega) (g0_b i h).2⟩, fun i _ h => g0_b i h, ⟨3, by omega, f9⟩, i0 (by omega) f10⟩, ⟨f1, f2, g0_6, g0_12, bt f3 (fun i h => (g0_b i h).1), bt f4 (fun i h => (g0_b i h).2), by rw [f5, f9], by rw [f6, f10]⟩, ⟨0, 0, by omega, f11, f12, f13, f14, fun i h => absurd h (by omega)⟩, ⟨0, by omega, f15, f16, fun i h => absurd h (by omega)⟩, Or.inl ⟨f17, f18, rfl⟩, Or.inl ⟨f19, f20⟩, ⟨0, by omega, by omega, f21, f22, f23, f24, fun i h => absurd h (by omega), g0_t⟩, fun s hs => Or.inl (g0_s s hs)⟩
