/-! OPERATIONS (26): the deeds, in the model -/
abbrev Tr := Nat × (Nat → Int32)
/-- one more code in the trace -/
def psh (c : Int32) (t : Tr) : Tr := (t.1 + 1, fun k => if t.1 < 24 ∧ k = t.1 then c else t.2 k)
def MK (b kd : Nat) (t : Tr) (g : mG) : Prop := b < 50 ∧ kd < 8 ∧ g.1 88 b = nI kd ∧ g.1 55 61 = nI t.1 ∧ t.1 < 1000 ∧ ∀ k, k < 24 → g.1 89 k = t.2 k
def sTM (c k : Nat) : Bool := (c == 55 && k == 61) || c == 89
theorem m_ran {b kd : Nat} {t : Tr} {g : mG} (hK : MK b kd t g) (ht : t.1 + 1 < 1000) (d : Nat) (c : Int32) : Ok (ev none d mm_X12_ran 0 [.ref 55, .int c] [] g) (fun r g2 => r = none ∧ MK b kd (psh c t) g2 ∧ Fr sTM g g2) := by
  obtain ⟨k1, k2, k3, k4, k5, k6⟩ := hK
  rw [b_X12_ran_0, k4, show (24 : Int32) = nI 24 from rfl, mi_c (nI_ltI (by omega) (by omega))]
  refine ok_if (fun z => ?_) (fun z => ?_)
  · rw [mi_nI (by omega) (by omega), pk_cl t.1 (hx := rfl), b_X12_ran_19]
    refine ok_some ⟨rfl, ⟨k1, k2, by rw [s1_ne (by omega), s1_ne (by omega)]; exact k3, by rw [s1_at, s1_ne (by omega), k4, nI_1]; rfl, ht, fun k hk => ?_⟩, fr_s1 (fr_s1 fr_refl rfl) rfl⟩
    rw [s1_ne (by omega)]
    show _ = if t.1 < 24 ∧ k = t.1 then c else t.2 k
    by_cases e : k = t.1
    · rw [if_pos ⟨z, e⟩, e, s1_at]
    · rw [if_neg (fun y => e y.2), s1_same e]
      exact k6 k hk
  · rw [b_X12_ran_19]
    refine ok_some ⟨rfl, ⟨k1, k2, by rw [s1_ne (by omega)]; exact k3, by rw [s1_at, k4, nI_1]; rfl, ht, fun k hk => ?_⟩, fr_s1 fr_refl rfl⟩
    rw [s1_ne (by omega)]
    show _ = if t.1 < 24 ∧ k = t.1 then c else t.2 k
    rw [if_neg (fun y => z y.1)]
    exact k6 k hk
def dPH (b : Nat) (x : Int32) (t : Tr) : Int32 × Tr := (x + nI b, psh 1 t)
def dTH (b : Nat) (x : Int32) (t : Tr) : Int32 × Tr := ((dPH b x (psh 70 t)).1 * 2, (dPH b x (psh 70 t)).2)
def dH (kd b : Nat) (x : Int32) (t : Tr) : Int32 × Tr := if kd = 1 ∨ kd = 4 then ((dPH b x (psh 20 t)).1 + 3, (dPH b x (psh 20 t)).2) else if kd = 7 then ((dTH b x (psh 81 t)).1 - 1, (dTH b x (psh 81 t)).2) else if kd = 6 then dTH b x t else dPH b x t
theorem m_plainHolds {b kd : Nat} {t : Tr} {g : mG} (hK : MK b kd t g) (ht : t.1 + 1 < 1000) (d : Nat) (x : Int32) : Ok (ev none (d + 1) mm_X12_plainHolds 0 [.ref 55, .int (nI b), .int x] [] g) (fun r g2 => r = some (.int (dPH b x t).1) ∧ MK b kd (dPH b x t).2 g2 ∧ Fr sTM g g2) := by
  rw [b_X12_plainHolds_0]
  refine ok_bnd (m_ran hK ht d 1) ?_
  intro r g2 ⟨hr, q1, q2⟩
  subst hr
  rw [mp_none, b_X12_plainHolds_5]
  exact ok_some ⟨rfl, q1, q2⟩
theorem m_pittHolds {b kd : Nat} {t : Tr} {g : mG} (hK : MK b kd t g) (ht : t.1 + 2 < 1000) (d : Nat) (x : Int32) : Ok (ev none (d + 2) mm_X12_pittHolds 0 [.ref 55, .int (nI b), .int x] [] g) (fun r g2 => r = some (.int (dTH b x t).1) ∧ MK b kd (dTH b x t).2 g2 ∧ Fr sTM g g2) := by
  rw [b_X12_pittHolds_0]
  refine ok_bnd (m_ran hK (by omega) _ 70) ?_
  intro r g2 ⟨hr, q1, q2⟩
  subst hr
  rw [mp_none, b_X12_pittHolds_6]
  refine ok_bnd (m_plainHolds q1 (show t.1 + 1 + 1 < 1000 by omega) d x) ?_
  intro r g3 ⟨hr, q3, q4⟩
  subst hr
  rw [mp_some, b_X12_pittHolds_12]
  exact ok_some ⟨rfl, q3, fr_trans q2 q4⟩
theorem v_under : ∀ kd, kd < 8 → ∀ a, (a = 1 ∨ a = 3) → ∀ (d : Nat) (g : mG), ev none d mm_X12_isUnder 0 [.int (nI kd), .int (nI a)] [] g = some (some (.int (if kd = a ∨ (a = 1 ∧ kd = 4) ∨ (a = 3 ∧ kd = 5) then 1 else 0)), g) := by
  intro kd hk a ha d g
  have h8 : kd = 0 ∨ kd = 1 ∨ kd = 2 ∨ kd = 3 ∨ kd = 4 ∨ kd = 5 ∨ kd = 6 ∨ kd = 7 := by omega
  rcases ha with rfl | rfl
  · rw [b_X12_isUnder_0, b_X12_isUnder_19, b_X12_isUnder_34, b_X12_isUnder_44, m_if_neg (show ¬ nI 1 = 0 by decide)]
    rcases h8 with rfl | rfl | rfl | rfl | rfl | rfl | rfl | rfl
    all_goals (unfold m_if; simp (config := { decide := true }))
  · rw [b_X12_isUnder_0, b_X12_isUnder_19, b_X12_isUnder_34, b_X12_isUnder_44, m_if_neg (show ¬ nI 3 = 0 by decide)]
    rcases h8 with rfl | rfl | rfl | rfl | rfl | rfl | rfl | rfl
    all_goals (unfold m_if; simp (config := { decide := true }))
