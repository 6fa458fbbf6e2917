/-! PARTS OF A SET, ONE AFTER THE OTHER -/
def sub (t w : Nat) : Prop := ∀ i, t.testBit i = true → w.testBit i = true
/-- the parts of w by their number -/
def pd : Nat → Nat → Nat → Nat
  | 0, _, _ => 0
  | b + 1, w, i => if w % 2 = 1 then 2 * pd b (w / 2) (i / 2) + i % 2 else 2 * pd b (w / 2) i
theorem tb_0 (a : Nat) : a.testBit 0 = decide (a % 2 = 1) := Nat.testBit_zero ..
theorem tb_s (a i : Nat) : a.testBit (i + 1) = (a / 2).testBit i := Nat.testBit_succ ..
theorem sub_half {t w : Nat} (h : sub t w) : sub (t / 2) (w / 2) := fun i hi => by
  rw [← tb_s] at hi ⊢
  exact h _ hi
theorem sub_bit {t w : Nat} (h : sub t w) (h1 : w % 2 ≠ 1) : t % 2 = 0 := by
  have := h 0
  rw [tb_0, tb_0, decide_eq_true_iff, decide_eq_true_iff] at this
  by_cases c : t % 2 = 1
  · exact absurd (this c) h1
  · omega
theorem sub_of {t w : Nat} (h1 : sub (t / 2) (w / 2)) (h2 : t % 2 = 1 → w % 2 = 1) : sub t w := by
  intro i
  cases i with
  | zero =>
    rw [tb_0, tb_0, decide_eq_true_iff, decide_eq_true_iff]
    exact h2
  | succ i =>
    rw [tb_s, tb_s]
    exact h1 i
theorem sub_0 (w : Nat) : sub 0 w := fun i hi => by
  rw [Nat.zero_testBit] at hi
  exact absurd hi (by decide)
theorem sub_le {t w : Nat} (h : sub t w) : t ≤ w := by
  have : t = t &&& w := Nat.eq_of_testBit_eq (fun i => by
    rw [Nat.testBit_and]
    cases e : t.testBit i with
    | false => rfl
    | true => rw [h i e]; rfl)
  rw [this]
  exact Nat.and_le_right
theorem pd_sub : ∀ b w i, sub (pd b w i) w := by
  intro b
  induction b with
  | zero => intro w i; exact sub_0 w
  | succ b ih =>
    intro w i
    unfold pd
    by_cases c : w % 2 = 1
    · rw [if_pos c]
      refine sub_of ?_ (fun _ => c)
      rw [show (2 * pd b (w / 2) (i / 2) + i % 2) / 2 = pd b (w / 2) (i / 2) by omega]
      exact ih _ _
    · rw [if_neg c]
      refine sub_of ?_ (fun e => by omega)
      rw [show (2 * pd b (w / 2) i) / 2 = pd b (w / 2) i by omega]
      exact ih _ _
theorem pd_0 : ∀ b w, pd b w 0 = 0 := by
  intro b
  induction b with
  | zero => intro w; rfl
  | succ b ih =>
    intro w
    unfold pd
    by_cases c : w % 2 = 1
    · rw [if_pos c, show (0 : Nat) / 2 = 0 from rfl, ih]
    · rw [if_neg c, ih]
theorem pd_sur : ∀ b w t, t < 2 ^ b → sub t w → ∃ i, i < 2 ^ popF b w ∧ pd b w i = t := by
  intro b
  induction b with
  | zero =>
    intro w t h hs
    exact ⟨0, by show 0 < 2 ^ 0; omega, by show 0 = t; omega⟩
  | succ b ih =>
    intro w t h hs
    obtain ⟨i, hi, e⟩ := ih (w / 2) (t / 2) (by rw [Nat.pow_succ] at h; omega) (sub_half hs)
    by_cases c : w % 2 = 1
    · refine ⟨2 * i + t % 2, ?_, ?_⟩
      · show _ < 2 ^ (w % 2 + popF b (w / 2))
        rw [c, Nat.pow_add]
        omega
      · unfold pd
        rw [if_pos c, show (2 * i + t % 2) / 2 = i by omega, show (2 * i + t % 2) % 2 = t % 2 by omega, e]
        omega
    · have h0 := sub_bit hs c
      refine ⟨i, ?_, ?_⟩
      · show _ < 2 ^ (w % 2 + popF b (w / 2))
        rw [show w % 2 = 0 by omega, Nat.zero_add]
        exact hi
      · unfold pd
        rw [if_neg c, e]
        omega
theorem pd_mono : ∀ b w i j, i < j → j < 2 ^ popF b w → pd b w i < pd b w j := by
  intro b
  induction b with
  | zero =>
    intro w i j h1 h2
    have h2' : j < 2 ^ 0 := h2
    omega
  | succ b ih =>
    intro w i j h1 h2
    have h2' : j < 2 ^ (w % 2 + popF b (w / 2)) := h2
    unfold pd
    by_cases c : w % 2 = 1
    · rw [if_pos c, if_pos c]
      rw [c, Nat.pow_add] at h2'
      by_cases e : i / 2 = j / 2
      · rw [e]; omega
      · have := ih (w / 2) (i / 2) (j / 2) (by omega) (by omega)
        omega
    · rw [if_neg c, if_neg c]
      rw [show w % 2 = 0 by omega, Nat.zero_add] at h2'
      have := ih (w / 2) i j h1 h2'
      omega
theorem adn_2 (a b x y : Nat) (hx : x < 2) (hy : y < 2) : adn (2 * a + x) (2 * b + y) = 2 * adn a b + (if x = 1 ∧ y = 0 then 1 else 0) := by
  have hz : (if x = 1 ∧ y = 0 then 1 else 0) < 2 := by split <;> omega
  generalize hzz : (if x = 1 ∧ y = 0 then 1 else 0) = z at hz
  refine Nat.eq_of_testBit_eq (fun i => ?_)
  cases i with
  | zero =>
    rw [adn_bit, tb_0, tb_0, tb_0, show (2 * a + x) % 2 = x by omega, show (2 * b + y) % 2 = y by omega, show (2 * adn a b + z) % 2 = z by omega, ← hzz]
    have h1 : x = 0 ∨ x = 1 := by omega
    have h2 : y = 0 ∨ y = 1 := by omega
    rcases h1 with h1 | h1 <;> rcases h2 with h2 | h2 <;> subst h1 <;> subst h2 <;> decide
  | succ i =>
    rw [adn_bit, tb_s, tb_s, tb_s, show (2 * a + x) / 2 = a by omega, show (2 * b + y) / 2 = b by omega, show (2 * adn a b + z) / 2 = adn a b by omega, adn_bit]
theorem adn_s : ∀ b w s, w < 2 ^ b → sub s w → adn w (w - s) = s := by
  intro b
  induction b with
  | zero =>
    intro w s h hs
    have := sub_le hs
    have h' : w < 1 := h
    have e1 : w = 0 := by omega
    have e2 : s = 0 := by omega
    subst e1; subst e2
    decide
  | succ b ih =>
    intro w s h hs
    have h1 := sub_le (sub_half hs)
    have h2 := ih (w / 2) (s / 2) (by rw [Nat.pow_succ] at h; omega) (sub_half hs)
    have key := adn_2 (w / 2) (w / 2 - s / 2) (w % 2) (w % 2 - s % 2) (by omega) (by omega)
    have hb : s % 2 ≤ w % 2 := by
      by_cases c : w % 2 = 1
      · omega
      · have := sub_bit hs c
        omega
    rw [h2, show 2 * (w / 2) + w % 2 = w by omega, show 2 * (w / 2 - s / 2) + (w % 2 - s % 2) = w - s by omega] at key
    rw [key]
    by_cases c : w % 2 = 1
    · by_cases c2 : s % 2 = 1
      · rw [if_pos (by omega)]; omega
      · rw [if_neg (by omega)]; omega
    · have := sub_bit hs c
      rw [if_neg (by omega)]; omega
theorem pd_nx : ∀ b w i, w < 2 ^ b → i + 1 < 2 ^ popF b w → pd b w i < w ∧ adn w (w - pd b w i - 1) = pd b w (i + 1) := by
  intro b
  induction b with
  | zero =>
    intro w i h hi
    have hi' : i + 1 < 2 ^ 0 := hi
    omega
  | succ b ih =>
    intro w i h hi
    have hi' : i + 1 < 2 ^ (w % 2 + popF b (w / 2)) := hi
    have hw : w / 2 < 2 ^ b := by rw [Nat.pow_succ] at h; omega
    unfold pd
    by_cases c : w % 2 = 1
    · rw [if_pos c, if_pos c]
      rw [c, Nat.pow_add] at hi'
      by_cases c2 : i % 2 = 1
      · obtain ⟨i1, i2⟩ := ih (w / 2) (i / 2) hw (by omega)
        have key := adn_2 (w / 2) (w / 2 - pd b (w / 2) (i / 2) - 1) (w % 2) 1 (by omega) (by omega)
        rw [i2, if_neg (by omega), show 2 * (w / 2) + w % 2 = w by omega] at key
        refine ⟨by omega, ?_⟩
        rw [show w - (2 * pd b (w / 2) (i / 2) + i % 2) - 1 = 2 * (w / 2 - pd b (w / 2) (i / 2) - 1) + 1 by omega, key, show (i + 1) / 2 = i / 2 + 1 by omega, show (i + 1) % 2 = 0 by omega]
      · have hsub := pd_sub b (w / 2) (i / 2)
        have hle := sub_le hsub
        have i2 := adn_s b (w / 2) (pd b (w / 2) (i / 2)) hw hsub
        have key := adn_2 (w / 2) (w / 2 - pd b (w / 2) (i / 2)) (w % 2) 0 (by omega) (by omega)
        rw [i2, if_pos (by omega), show 2 * (w / 2) + w % 2 = w by omega] at key
        refine ⟨by omega, ?_⟩
        rw [show w - (2 * pd b (w / 2) (i / 2) + i % 2) - 1 = 2 * (w / 2 - pd b (w / 2) (i / 2)) + 0 by omega, key, show (i + 1) / 2 = i / 2 by omega, show (i + 1) % 2 = 1 by omega]
    · rw [if_neg c, if_neg c]
      rw [show w % 2 = 0 by omega, Nat.zero_add] at hi'
      obtain ⟨i1, i2⟩ := ih (w / 2) i hw hi'
      have key := adn_2 (w / 2) (w / 2 - pd b (w / 2) i - 1) 0 1 (by omega) (by omega)
      rw [i2, if_neg (by omega), show 2 * (w / 2) + 0 = w by omega] at key
      refine ⟨by omega, ?_⟩
      rw [show w - 2 * pd b (w / 2) i - 1 = 2 * (w / 2 - pd b (w / 2) i - 1) + 1 by omega, key]
      omega
/-- the machine's next part -/
theorem nx_m {s w : Nat} (hw : w < 4096) (h : s < w) : (nI s - nI w) &&& nI w = nI (adn w (w - s - 1)) := by
  have e1 : nI s - nI w = nI (2 ^ 32 - (w - s)) := by
    have a : nI (2 ^ 32 - (w - s)) + nI w = nI s := by
      rw [nI_add, show 2 ^ 32 - (w - s) + w = s + 4294967296 by omega, ← nI_add s, show nI 4294967296 = 0 from by decide, Int32.add_zero]
    rw [← a, Int32.add_sub_cancel]
  rw [e1, t_and]
  congr 1
  refine Nat.eq_of_testBit_eq (fun i => ?_)
  rw [Nat.testBit_and, adn_bit, show w - s = (w - s - 1) + 1 by omega, Nat.testBit_two_pow_sub_succ (by omega)]
  rw [show w - s - 1 + 1 - 1 = w - s - 1 by omega]
  by_cases hi : i < 32
  · rw [decide_eq_true hi]
    cases w.testBit i <;> cases (w - s - 1).testBit i <;> rfl
  · rw [tb_hi (k := 12) (show w < 2 ^ 12 by omega) (by omega)]
    cases decide (i < 32) <;> cases (w - s - 1).testBit i <;> rfl
theorem v_nextPart {w i : Nat} (hw : w < 4096) (hi : i + 1 < 2 ^ pop w) (d : Nat) (g : mG) : ev none d mm_X5_nextPart 0 [.int (nI (pd 12 w i)), .int (nI w)] [] g = some (some (.int (nI (pd 12 w (i + 1)))), g) := by
  have hp : popF 12 w = pop w := by
    rw [popF_cnt, pop_k (k := 12) (by omega) (by omega)]
  obtain ⟨h1, h2⟩ := pd_nx 12 w i (by omega) (by rw [hp]; exact hi)
  rw [b_X5_nextPart_0, nx_m hw h1, h2]
theorem pop_12 {w : Nat} (hw : w < 4096) : pop w ≤ 12 := by
  rw [pop_k (k := 12) (by omega) (by omega)]
  exact cnt_le
theorem popF_12 {w : Nat} (hw : w < 4096) : popF 12 w = pop w := by
  rw [popF_cnt, pop_k (k := 12) (by omega) (by omega)]
theorem pd_lt {w i : Nat} (hw : w < 4096) : pd 12 w i < 4096 := Nat.lt_of_le_of_lt (sub_le (pd_sub 12 w i)) hw
/-- the best of what is allowed: least cost, then first -/
def Bst (P : Nat → Prop) (c : Nat → Nat) (o : Option Nat) : Prop := match o with
  | none => ∀ t, ¬ P t
  | some b => P b ∧ ∀ t, P t → c b < c t ∨ (c b = c t ∧ b ≤ t)
theorem Bst_u {P : Nat → Prop} {c : Nat → Nat} {o1 o2 : Option Nat} (h1 : Bst P c o1) (h2 : Bst P c o2) : o1 = o2 := by
  cases o1 with
  | none =>
    cases o2 with
    | none => rfl
    | some b => exact absurd h2.1 (h1 b)
  | some a =>
    cases o2 with
    | none => exact absurd h1.1 (h2 a)
    | some b =>
      have a1 := h1.2 b h2.1
      have a2 := h2.2 a h1.1
      congr 1
      omega
theorem Bst_c {P Q : Nat → Prop} {c : Nat → Nat} {o : Option Nat} (h : ∀ t, P t ↔ Q t) (hb : Bst P c o) : Bst Q c o := by
  cases o with
  | none => exact fun t ht => hb t ((h t).mpr ht)
  | some b => exact ⟨(h b).mp hb.1, fun t ht => hb.2 t ((h t).mpr ht)⟩
theorem Bst_0 {P : Nat → Prop} {c : Nat → Nat} : Bst (fun t => t < 0 ∧ P t) c none := fun t ht => absurd ht.1 (by omega)
/-- one more is looked at: it isn't allowed, or it isn't better -/
theorem Bst_n {P : Nat → Prop} {c : Nat → Nat} {o : Option Nat} {k : Nat} (hb : Bst (fun t => t < k ∧ P t) c o) (h : ¬ P k ∨ ∃ b, o = some b ∧ c b ≤ c k) : Bst (fun t => t < k + 1 ∧ P t) c o := by
  cases o with
  | none =>
    intro t ⟨h1, h2⟩
    by_cases e : t = k
    · subst e
      rcases h with h | ⟨b, h, _⟩
      · exact h h2
      · exact absurd h (by simp)
    · exact hb t ⟨by omega, h2⟩
  | some b =>
    refine ⟨⟨by have := hb.1.1; omega, hb.1.2⟩, fun t ⟨h1, h2⟩ => ?_⟩
    by_cases e : t = k
    · subst e
      rcases h with h | ⟨b', h, h3⟩
      · exact absurd h2 h
      · cases h
        have := hb.1.1
        omega
    · exact hb.2 t ⟨by omega, h2⟩
theorem Bst_y {P : Nat → Prop} {c : Nat → Nat} {o : Option Nat} {k : Nat} (hb : Bst (fun t => t < k ∧ P t) c o) (hp : P k) (h : ∀ b, o = some b → c k < c b) : Bst (fun t => t < k + 1 ∧ P t) c (some k) := by
  refine ⟨⟨by omega, hp⟩, fun t ⟨h1, h2⟩ => ?_⟩
  by_cases e : t = k
  · subst e; exact Or.inr ⟨rfl, Nat.le_refl _⟩
  · cases o with
    | none => exact absurd h2 (fun h2 => hb t ⟨by omega, h2⟩)
    | some b =>
      have := hb.2 t ⟨by omega, h2⟩
      have := h b rfl
      omega
/-- the same, over the parts by their numbers -/
theorem Bst_pd {w : Nat} {P : Nat → Prop} {c : Nat → Nat} {o : Option Nat} (hw : w < 4096) (hP : ∀ t, P t → sub t w) (hb : Bst (fun i => i < 2 ^ pop w ∧ P (pd 12 w i)) (fun i => c (pd 12 w i)) o) : Bst P c (o.map (pd 12 w)) := by
  have sur : ∀ t, P t → ∃ i, i < 2 ^ pop w ∧ pd 12 w i = t := fun t ht => by
    have hs := hP t ht
    obtain ⟨i, h1, h2⟩ := pd_sur 12 w t (by have := sub_le hs; omega) hs
    exact ⟨i, by rw [← popF_12 hw]; exact h1, h2⟩
  cases o with
  | none =>
    intro t ht
    obtain ⟨i, h1, h2⟩ := sur t ht
    exact hb i ⟨h1, by rw [h2]; exact ht⟩
  | some b =>
    refine ⟨hb.1.2, fun t ht => ?_⟩
    obtain ⟨i, h1, h2⟩ := sur t ht
    have := hb.2 i ⟨h1, by rw [h2]; exact ht⟩
    dsimp only at this
    rw [h2] at this
    rcases this with q | ⟨q1, q2⟩
    · exact Or.inl q
    · refine Or.inr ⟨q1, ?_⟩
      by_cases e : b = i
      · subst e; rw [h2]; exact Nat.le_refl _
      · have := pd_mono 12 w b i (by omega) (by rw [popF_12 hw]; exact h1)
        rw [h2] at this
        exact Nat.le_of_lt this
