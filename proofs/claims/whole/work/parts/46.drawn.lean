/-! years by draws -/
/-- the next draw, and the way that it tells -/
def nz (z : Int32) : Int32 := z * 1103515245 + 12345
theorem nz_e (z : Int32) : z * 1103515245 + 12345 = nz z := rfl
def wz (z : Int32) : Nat := (z.toBitVec.toNat / 256) % 5
theorem wz_eq (z : Int32) : (Int32.toUInt32 z >>> (Int32.toUInt32 8 &&& Int32.toUInt32 31)).toInt32 - (Int32.toUInt32 z >>> (Int32.toUInt32 8 &&& Int32.toUInt32 31)).toInt32 / 5 * 5 = nI (wz z) := by
  have hz : z.toBitVec.toNat < 2 ^ 32 := z.toBitVec.isLt
  have e0 : z = nI z.toBitVec.toNat := by
    refine Int32.toBitVec_inj.mp (BitVec.eq_of_toNat_eq ?_)
    rw [pk_tn hz]
  have e1 : (Int32.toUInt32 z >>> (Int32.toUInt32 8 &&& Int32.toUInt32 31)).toInt32 = nI (z.toBitVec.toNat / 2 ^ 8) := by
    have := pk_ushrN (n := z.toBitVec.toNat) hz 8 8 (by decide)
    rw [← e0] at this
    exact this
  rw [e1]
  exact pk_rem (d := 5) (by omega) (by omega) (by omega)
theorem wz_lt (z : Int32) : wz z < 5 := Nat.mod_lt _ (by omega)
/-- days of a year, years -/
noncomputable def drS (H : Nat → Nat → Prop) (k : Nat) (a : Int32 × Nat × Nat) : Int32 × Nat × Nat := @ite _ (H k a.2.2) (Classical.propDecidable _) (nz a.1, a.2.1 + 1, a.2.2) (nz a.1, a.2.1, st a.2.2 (wz (nz a.1)))
noncomputable def drD (H : Nat → Nat → Prop) (s : Int32 × Nat × Nat) : Nat → Int32 × Nat × Nat
  | 0 => s
  | k + 1 => drS H k (drD H s k)
def drT (r a : Int32 × Nat × Nat) (there : Int32) : Int32 × Nat × Nat := (r.1, r.2.1, if nI r.2.2 = there then a.2.2 + 1 else a.2.2)
noncomputable def drU (H : Nat → Nat → Prop) (P0 D : Nat) (there : Int32) (a : Int32 × Nat × Nat) : Int32 × Nat × Nat := drT (drD H (a.1, a.2.1, P0) D) a there
noncomputable def drY (H : Nat → Nat → Prop) (P0 D : Nat) (seed there : Int32) : Nat → Int32 × Nat × Nat
  | 0 => (seed, 0, 0)
  | y + 1 => drU H P0 D there (drY H P0 D seed there y)
theorem drY_s {H : Nat → Nat → Prop} {P0 D : Nat} {seed there : Int32} {y : Nat} : drY H P0 D seed there (y + 1) = drU H P0 D there (drY H P0 D seed there y) := rfl
theorem drD_h {H : Nat → Nat → Prop} {s : Int32 × Nat × Nat} {k : Nat} {z : Int32} {c pl : Nat} (e : (z, c, pl) = drD H s k) (h : H k pl) : (nz z, c + 1, pl) = drD H s (k + 1) := by
  show _ = drS H k (drD H s k)
  rw [← e]
  unfold drS
  exact (if_pos h).symm
theorem drD_s {H : Nat → Nat → Prop} {s : Int32 × Nat × Nat} {k : Nat} {z : Int32} {c pl : Nat} (e : (z, c, pl) = drD H s k) (h : ¬ H k pl) : (nz z, c, st pl (wz (nz z))) = drD H s (k + 1) := by
  show _ = drS H k (drD H s k)
  rw [← e]
  unfold drS
  exact (if_neg h).symm
theorem drY_c {H : Nat → Nat → Prop} {P0 D : Nat} {seed there : Int32} {y : Nat} {z z2 : Int32} {c t c2 pl : Nat} (e : (z, c, t) = drY H P0 D seed there y) (e2 : (z2, c2, pl) = drD H (z, c, P0) D) : (z2, c2, if nI pl = there then t + 1 else t) = drY H P0 D seed there (y + 1) := by
  rw [drY_s, ← e]
  unfold drU
  rw [← e2]
  rfl
def drA (there : Int32) (s : Int32 × Nat × Nat) : Int32 := if there < 0 then nI s.2.1 else nI s.2.2
theorem x_year {W : mW} {p : Nat} {h : mH} {one D : Nat} {g : mG} (hT : TH W p h one D g) (hD : D ≤ 40) (d : Nat) (x1 x2 x5 x8 x9 : Int32) (z0 : Int32) (c0 P0 : Nat) (hP0 : P0 < 25) (Q : Option Value → mG → Prop) (hQ : ∀ z c pl, pl < 25 → (z, c, pl) = drD (HH W p h one) (z0, c0, P0) D → Ok (ev none (d + 6) mm_X10_yearsByDraws 42 [.ref 19, .int x1, .int x2, .int (nI D), .int (nI one), .int x5, .int z, .int (nI c), .int x8, .int x9, .int (nI pl), .int (nI D)] [] g) Q) : Ok (ev none (d + 6) mm_X10_yearsByDraws 42 [.ref 19, .int x1, .int x2, .int (nI D), .int (nI one), .int x5, .int z0, .int (nI c0), .int x8, .int x9, .int (nI P0), .int 0] [] g) Q := by
  refine ok_loop (E := fun e2 (a : Int32 × Nat × Nat) g => ev none (d + 6) mm_X10_yearsByDraws 42 [.ref 19, .int x1, .int x2, .int (nI D), .int (nI one), .int x5, .int a.1, .int (nI a.2.1), .int x8, .int x9, .int (nI a.2.2), .int (nI e2)] [] g) (I := fun e2 a g4 => a = drD (HH W p h one) (z0, c0, P0) e2 ∧ a.2.2 < 25 ∧ g4 = g) (P := D) ?_ ?_ 0 (z0, c0, P0) g (by omega) ⟨rfl, hP0, rfl⟩
  · intro e2 ⟨z, c, pl⟩ g4 he2 ⟨ha, hpl, hg4⟩ next2
    subst hg4
    have hpl' : pl < 25 := hpl
    show Ok (ev none (d + 6) mm_X10_yearsByDraws 42 [.ref 19, .int x1, .int x2, .int (nI D), .int (nI one), .int x5, .int z, .int (nI c), .int x8, .int x9, .int (nI pl), .int (nI e2)] [] g4) _
    rw [b_X10_yearsByDraws_42, m_if_pos (nI_lt he2 (by omega)), nz_e, x_isHeld hT hD _ _ e2 hpl' (by omega), mb_some, mp_some, b_X10_yearsByDraws_67, mi_b2]
    refine ok_if (fun c1 => ?_) (fun c1 => ?_)
    · rw [b_X10_yearsByDraws_90, nI_1, nI_1]
      exact next2 (nz z, c + 1, pl) g4 ⟨drD_h ha c1, hpl', rfl⟩
    · rw [wz_eq, v_stepped _ _ _ hpl' _ (wz_lt _), mb_some, mp_some, b_X10_yearsByDraws_88, b_X10_yearsByDraws_90, nI_1]
      exact next2 (nz z, c, st pl (wz (nz z))) g4 ⟨drD_s ha c1, st_lt _ hpl' _ (wz_lt _), rfl⟩
  · intro ⟨z, c, pl⟩ g4 ⟨ha, hpl, hg4⟩
    subst hg4
    exact hQ z c pl hpl ha
theorem x_drawn {W : mW} {n p : Nat} {h : mH} {g : mG} (hX : XR W n p h g) (d : Nat) (one P0 Y D : Nat) (h1 : one < n) (hP0 : P0 < 25) (hp0 : h 56 one = nI P0) (hY : Y ≤ 30) (hD : D ≤ 40) (seed there : Int32) : Ok (ev none (d + 6) mm_X10_yearsByDraws 0 [.ref 19, .int seed, .int (nI Y), .int (nI D), .int (nI one), .int there, .null, .null, .null, .null, .null, .null] [] g) (fun r g2 => r = some (.int (drA there (drY (HH W p h one) P0 D seed there Y))) ∧ Fr sA g g2) := by
  have hn : n ≤ 6 := hX.1.1
  rw [b_X10_yearsByDraws_0]
  refine ok_bnd (x_thinkOf hX d one D h1 hD) ?_
  intro r g1 ⟨hr, F1, hT⟩
  subst hr
  have hX1 := XR_fr F1 hX
  rw [mp_none, b_X10_yearsByDraws_7]
  refine ok_loop (E := fun e (a : (Int32 × Nat × Nat) × Value × Value) g => ev none (d + 6) mm_X10_yearsByDraws 19 [.ref 19, .int seed, .int (nI Y), .int (nI D), .int (nI one), .int there, .int a.1.1, .int (nI a.1.2.1), .int (nI a.1.2.2), .int (nI e), a.2.1, a.2.2] [] g) (I := fun e a g3 => a.1 = drY (HH W p h one) P0 D seed there e ∧ g3 = g1) (P := Y) ?_ ?_ 0 ((seed, 0, 0), .null, .null) g1 (by omega) ⟨rfl, rfl⟩
  · intro e ⟨⟨z, c, t⟩, v10, v11⟩ g3 he ⟨ha, hg⟩ next
    subst hg
    have ha' : (z, c, t) = drY (HH W p h one) P0 D seed there e := ha
    show Ok (ev none (d + 6) mm_X10_yearsByDraws 19 [.ref 19, .int seed, .int (nI Y), .int (nI D), .int (nI one), .int there, .int z, .int (nI c), .int (nI t), .int (nI e), v10, v11] [] g3) _
    rw [b_X10_yearsByDraws_19, m_if_pos (nI_lt he (by omega)), hT.1, mi_nI (by omega) (by omega), pk_cl one (hx := rfl), (hX1.2.1.2.2.1 one (by omega)).1, hp0]
    refine x_year hT hD d _ _ _ _ _ z c P0 hP0 _ ?_
    intro z2 c2 pl hpl hd
    have fin := drY_c ha' hd
    rw [b_X10_yearsByDraws_42, m_if_neg (nI_nlt (Nat.le_refl _) (by omega))]
    refine ok_if (fun q => ?_) (fun q => ?_)
    · rw [if_pos q] at fin
      rw [b_X10_yearsByDraws_110, nI_1, nI_1]
      exact next ((z2, c2, t + 1), .int (nI pl), .int (nI D)) g3 ⟨fin, rfl⟩
    · rw [if_neg q] at fin
      rw [b_X10_yearsByDraws_110, nI_1, Int32.add_zero]
      exact next ((z2, c2, t), .int (nI pl), .int (nI D)) g3 ⟨fin, rfl⟩
  · intro ⟨⟨z, c, t⟩, v10, v11⟩ g3 ⟨ha, hg⟩
    subst hg
    have ha' : (z, c, t) = drY (HH W p h one) P0 D seed there Y := ha
    show Ok (ev none (d + 6) mm_X10_yearsByDraws 19 [.ref 19, .int seed, .int (nI Y), .int (nI D), .int (nI one), .int there, .int z, .int (nI c), .int (nI t), .int (nI Y), v10, v11] [] g3) _
    rw [b_X10_yearsByDraws_19, m_if_neg (nI_nlt (Nat.le_refl _) (by omega)), ← ha']
    unfold drA
    refine ok_if (fun q => ok_some ⟨by rw [if_pos q], F1⟩) (fun q => ok_some ⟨by rw [if_neg q], F1⟩)
theorem m_year {W : mW} {n p : Nat} {h : mH} {one D : Nat} {g0 g : mG} (hM : MC W n p h g0) (hg0 : Fr sA g0 g) (hD : D ≤ 40) (d : Nat) {x2 : Int32} (e2 : x2 - x2 / 100 * 100 = nI D) (x1 x4 x7 x8 : Int32) (z0 : Int32) (c0 P0 : Nat) (hP0 : P0 < 25) (Q : Option Value → mG → Prop) (hQ : ∀ z c pl g2, Fr sA g0 g2 → pl < 25 → (z, c, pl) = drD (HH W p h one) (z0, c0, P0) D → Ok (ev none (d + 8) mm_X12_drawn 86 [.ref 55, .int x1, .int x2, .int (nI one), .int x4, .int z, .int (nI c), .int x7, .int x8, .int (nI pl), .int (nI D)] [] g2) Q) : Ok (ev none (d + 8) mm_X12_drawn 86 [.ref 55, .int x1, .int x2, .int (nI one), .int x4, .int z0, .int (nI c0), .int x7, .int x8, .int (nI P0), .int 0] [] g) Q := by
  refine ok_loop (E := fun k (a : Int32 × Nat × Nat) g => ev none (d + 8) mm_X12_drawn 86 [.ref 55, .int x1, .int x2, .int (nI one), .int x4, .int a.1, .int (nI a.2.1), .int x7, .int x8, .int (nI a.2.2), .int (nI k)] [] g) (I := fun k a g4 => a = drD (HH W p h one) (z0, c0, P0) k ∧ a.2.2 < 25 ∧ Fr sA g0 g4) (P := D) ?_ ?_ 0 (z0, c0, P0) g (by omega) ⟨rfl, hP0, hg0⟩
  · intro k ⟨z, c, pl⟩ g4 hk ⟨ha, hpl, hg4⟩ next2
    have hpl' : pl < 25 := hpl
    have hM4 := MC_fr hg4 hM
    show Ok (ev none (d + 8) mm_X12_drawn 86 [.ref 55, .int x1, .int x2, .int (nI one), .int x4, .int z, .int (nI c), .int x7, .int x8, .int (nI pl), .int (nI k)] [] g4) _
    rw [b_X12_drawn_86, e2, m_if_pos (nI_lt hk (by omega)), nz_e, v_dayOn, mb_some, mp_some, b_X12_drawn_117, hM4.2.1.2.2.2.1]
    refine ok_bnd (m_isHeld hM4 _ _ _ _) ?_
    intro r g5 ⟨hr, F5⟩
    subst hr
    have F45 := fr_trans hg4 (fr_1A F5)
    rw [mp_some, b_X12_drawn_120, mi_b2]
    refine ok_if (fun c1 => ?_) (fun c1 => ?_)
    · rw [b_X12_drawn_143, nI_1, nI_1]
      exact next2 (nz z, c + 1, pl) g5 ⟨drD_h ha c1, hpl', F45⟩
    · rw [wz_eq, v_steppedM _ _ _ hpl' _ (wz_lt _), mb_some, mp_some, b_X12_drawn_141, b_X12_drawn_143, nI_1]
      exact next2 (nz z, c, st pl (wz (nz z))) g5 ⟨drD_s ha c1, st_lt _ hpl' _ (wz_lt _), F45⟩
  · intro ⟨z, c, pl⟩ g4 ⟨ha, hpl, hg4⟩
    exact hQ z c pl g4 hg4 hpl ha
theorem m_drawn {W : mW} {n p : Nat} {h : mH} {g : mG} (hM : MC W n p h g) (d : Nat) (one P0 Y D : Nat) {x2 : Int32} (e1 : x2 / 100 = nI Y) (e2 : x2 - x2 / 100 * 100 = nI D) (h1 : one < n) (hP0 : P0 < 25) (hp0 : h 56 one = nI P0) (hY : Y ≤ 30) (hD : D ≤ 40) (seed there : Int32) : Ok (ev none (d + 8) mm_X12_drawn 54 [.ref 55, .int seed, .int x2, .int (nI one), .int there, .null, .null, .null, .null, .null, .null] [] g) (fun r g2 => r = some (.int (drA there (drY (HH W p h one) P0 D seed there Y))) ∧ Fr sA g g2) := by
  have hn : n ≤ 6 := hM.1.1
  rw [b_X12_drawn_54]
  refine ok_loop (E := fun e (a : (Int32 × Nat × Nat) × Value × Value) g => ev none (d + 8) mm_X12_drawn 66 [.ref 55, .int seed, .int x2, .int (nI one), .int there, .int a.1.1, .int (nI a.1.2.1), .int (nI a.1.2.2), .int (nI e), a.2.1, a.2.2] [] g) (I := fun e a g3 => a.1 = drY (HH W p h one) P0 D seed there e ∧ Fr sA g g3) (P := Y) ?_ ?_ 0 ((seed, 0, 0), .null, .null) g (by omega) ⟨rfl, fr_refl⟩
  · intro e ⟨⟨z, c, t⟩, v10, v11⟩ g3 he ⟨ha, hg⟩ next
    have ha' : (z, c, t) = drY (HH W p h one) P0 D seed there e := ha
    have hM3 := MC_fr hg hM
    show Ok (ev none (d + 8) mm_X12_drawn 66 [.ref 55, .int seed, .int x2, .int (nI one), .int there, .int z, .int (nI c), .int (nI t), .int (nI e), v10, v11] [] g3) _
    rw [b_X12_drawn_66, e1, m_if_pos (nI_lt he (by omega)), mi_nI (by omega) (by omega), pk_cl one (hx := rfl), (hM3.2.1.2.2.2.2 one).1, hp0]
    refine m_year hM hg hD d e2 _ _ _ _ z c P0 hP0 _ ?_
    intro z2 c2 pl g4 F4 hpl hd
    have fin := drY_c ha' hd
    rw [b_X12_drawn_86, e2, m_if_neg (nI_nlt (Nat.le_refl _) (by omega))]
    refine ok_if (fun q => ?_) (fun q => ?_)
    · rw [if_pos q] at fin
      rw [b_X12_drawn_159, nI_1, nI_1]
      exact next ((z2, c2, t + 1), .int (nI pl), .int (nI D)) g4 ⟨fin, F4⟩
    · rw [if_neg q] at fin
      rw [b_X12_drawn_159, nI_1]
      exact next ((z2, c2, t), .int (nI pl), .int (nI D)) g4 ⟨fin, F4⟩
  · intro ⟨⟨z, c, t⟩, v10, v11⟩ g3 ⟨ha, hg⟩
    have ha' : (z, c, t) = drY (HH W p h one) P0 D seed there Y := ha
    show Ok (ev none (d + 8) mm_X12_drawn 66 [.ref 55, .int seed, .int x2, .int (nI one), .int there, .int z, .int (nI c), .int (nI t), .int (nI Y), v10, v11] [] g3) _
    rw [b_X12_drawn_66, e1, m_if_neg (nI_nlt (Nat.le_refl _) (by omega)), ← ha']
    unfold drA
    refine ok_if (fun q => ok_some ⟨by rw [if_pos q], hg⟩) (fun q => ok_some ⟨by rw [if_neg q], hg⟩)
theorem neg_lt1 {x : Int32} (hx : x < 0) : x / 100 < 1 := by
  have h1 : x.toInt < 0 := by
    rw [Int32.lt_iff_toInt_lt] at hx
    exact hx
  have h0 := Int32.le_toInt x
  have e : x.toInt.tdiv 100 = -((-x.toInt).tdiv 100) := by rw [Int.neg_tdiv, Int.neg_neg]
  have n1 : 0 ≤ (-x.toInt).tdiv 100 := Int.tdiv_nonneg (by omega) (by omega)
  have n2 : (-x.toInt).tdiv 100 ≤ -x.toInt := Int.tdiv_le_self _ (by omega)
  have e2 : (x / 100).toInt = x.toInt.tdiv 100 := by
    rw [Int32.toInt_div, show (100 : Int32).toInt = 100 from by decide]
    exact Int.bmod_eq_of_le (by omega) (by omega)
  rw [Int32.lt_iff_toInt_lt, e2, e, show (1 : Int32).toInt = 1 from by decide]
  omega
theorem o_drawn : op_drawn Inv 1299 := by
  intro g hI a1 a2 a3 a4
  obtain ⟨n, p, W, hX, hM⟩ := inv_C hI
  have hn : n ≤ 6 := hX.1.1
  have hp : p ≤ 12 := hX.1.2.1
  have hMh : ∀ g1 : mG, MC W n p g.1 g1 → ev none 1299 mm_X12_drawn 0 [.ref 55, .int a1, .int a2, .int a3, .int a4, .null, .null, .null, .null, .null, .null] [] g1 = m_if (¬ a2 / 100 < 1 ∧ ¬ 30 < a2 / 100) (m_if (¬ a2 - a2 / 100 * 100 < 1 ∧ ¬ 40 < a2 - a2 / 100 * 100) (m_if (ix n a3) (m_if (a4 = -1 ∨ ix 25 a4) (ev none 1299 mm_X12_drawn 54 [.ref 55, .int a1, .int a2, .int a3, .int a4, .null, .null, .null, .null, .null, .null] [] g1) (some (some (.int (-1)), g1))) (some (some (.int (-1)), g1))) (some (some (.int (-1)), g1))) (some (some (.int (-1)), g1)) := by
    intro g1 hM1
    rw [b_X12_drawn_0, v_X12_in, mb_some, mp_some, b_X12_drawn_14, mi_b2, v_X12_in, mb_some, mp_some, b_X12_drawn_27, mi_b2, v_isOne _ _ _ n (by omega) (MC_n hM1), mb_some, mp_some, b_X12_drawn_35, mi_b2, v_isPlaceOf, mb_some, mp_some, b_X12_drawn_49, mi_b2]
    by_cases c0 : a2 < 0
    · rw [m_if_pos c0, m_if_neg (fun q => q.1 (neg_lt1 c0))]
    · rw [m_if_neg c0]
      by_cases c1 : ¬ a2 / 100 < 1 ∧ ¬ 30 < a2 / 100
      · rw [m_if_pos c1, m_if_pos c1]
        by_cases c2 : ¬ a2 - a2 / 100 * 100 < 1 ∧ ¬ 40 < a2 - a2 / 100 * 100
        · rw [m_if_pos c2, m_if_pos c2]
          by_cases c3 : ix n a3
          · rw [m_if_pos c3, m_if_pos c3]
            by_cases c4 : a4 = -1
            · rw [m_if_pos c4, m_if_pos (Or.inl c4)]
            · rw [m_if_neg c4]
              by_cases c5 : ix 25 a4
              · rw [m_if_pos c5, m_if_pos (Or.inr c5)]
              · rw [m_if_neg c5, m_if_neg (fun q => q.elim c4 c5)]
          · rw [m_if_neg c3, m_if_neg c3]
        · rw [m_if_neg c2, m_if_neg c2]
      · rw [m_if_neg c1, m_if_neg c1]
  have hXh : ev none 1299 mm_X11_drawn 0 [.ref 0, .int a1, .int a2, .int a3, .int a4, .null, .null] [] g = m_if (¬ a2 / 100 < 1 ∧ ¬ 30 < a2 / 100) (m_if (¬ a2 - a2 / 100 * 100 < 1 ∧ ¬ 40 < a2 - a2 / 100 * 100) (m_if (ix n a3) (m_if (a4 = -1 ∨ ix 25 a4) (ev none 1299 mm_X11_drawn 65 [.ref 0, .int a1, .int a2, .int a3, .int a4, .int (a2 / 100), .int (a2 - a2 / 100 * 100)] [] g) (some (some (.int (-1)), g))) (some (some (.int (-1)), g))) (some (some (.int (-1)), g))) (some (some (.int (-1)), g)) := by
    rw [b_X11_drawn_0, v_hasPerson _ g _ n (by omega) hX.2.1.1, mb_some, mp_some, b_X11_drawn_46, mi_b2, v_isPlace, mb_some, mp_some, b_X11_drawn_60, mi_b2]
    by_cases c1 : a2 / 100 < 1
    · rw [m_if_pos c1, m_if_neg (fun q => q.1 c1)]
    · rw [m_if_neg c1]
      by_cases c2 : 30 < a2 / 100
      · rw [m_if_pos c2, m_if_neg (fun q => q.2 c2)]
      · rw [m_if_neg c2, m_if_pos (show ¬ a2 / 100 < 1 ∧ ¬ 30 < a2 / 100 from ⟨c1, c2⟩)]
        by_cases c3 : a2 - a2 / 100 * 100 < 1
        · rw [m_if_pos c3, m_if_neg (fun q => q.1 c3)]
        · rw [m_if_neg c3]
          by_cases c4 : 40 < a2 - a2 / 100 * 100
          · rw [m_if_pos c4, m_if_neg (fun q => q.2 c4)]
          · rw [m_if_neg c4, m_if_pos (show ¬ a2 - a2 / 100 * 100 < 1 ∧ ¬ 40 < a2 - a2 / 100 * 100 from ⟨c3, c4⟩)]
            by_cases c5 : ix n a3
            · rw [m_if_pos c5, m_if_pos c5]
              by_cases c6 : a4 = -1
              · rw [m_if_pos c6, m_if_pos (Or.inl c6)]
              · rw [m_if_neg c6]
                by_cases c7 : ix 25 a4
                · rw [m_if_pos c7, m_if_pos (Or.inr c7)]
                · rw [m_if_neg c7, m_if_neg (fun q => q.elim c6 c7)]
            · rw [m_if_neg c5, m_if_neg c5]
  rw [hXh]
  have ge1 : ∀ {x : Int32}, ¬ x < 1 → ¬ x < 0 := fun {x} hc c => hc (by
    rw [Int32.lt_iff_toInt_lt] at c ⊢
    have q1 : (0 : Int32).toInt = 0 := by decide
    have q2 : (1 : Int32).toInt = 1 := by decide
    omega)
  by_cases h1 : ¬ a2 / 100 < 1 ∧ ¬ 30 < a2 / 100
  · by_cases h2 : ¬ a2 - a2 / 100 * 100 < 1 ∧ ¬ 40 < a2 - a2 / 100 * 100
    · by_cases h3 : ix n a3
      · by_cases h4 : a4 = -1 ∨ ix 25 a4
        · obtain ⟨Y, hY, eY⟩ : ix 31 (a2 / 100) := (ix_le (n := 30) (by omega)).mp ⟨ge1 h1.1, h1.2⟩
          obtain ⟨D, hD, eD⟩ : ix 41 (a2 - a2 / 100 * 100) := (ix_le (n := 40) (by omega)).mp ⟨ge1 h2.1, h2.2⟩
          obtain ⟨one, ho, e⟩ := h3
          subst e
          obtain ⟨P0, hP0, hp0⟩ := (hX.1.2.2.2.2.1 one ho).1
          rw [m_if_pos h1, m_if_pos h2, m_if_pos (ix_nI ho), m_if_pos h4, eD, eY, b_X11_drawn_65]
          refine op_th (drA a4 (drY (HH W p g.1 one) P0 D a1 a4 Y)) hI ?_ ?_
          · refine ok_bnd (x_drawn hX 1292 one P0 Y D ho hP0 hp0 (by omega) (by omega) a1 a4) ?_
            intro r g2 ⟨hr, F⟩
            subst hr
            rw [mp_some, b_X11_drawn_80]
            exact ok_some ⟨rfl, F⟩
          · intro g1 F1
            have hM1 := MC_fr F1 hM
            rw [hMh g1 hM1, m_if_pos h1, m_if_pos h2, m_if_pos (ix_nI ho), m_if_pos h4]
            exact m_drawn hM1 1291 one P0 Y D eY eD ho hP0 hp0 (by omega) (by omega) a1 a4
        · rw [m_if_pos h1, m_if_pos h2, m_if_pos h3, m_if_neg h4]
          exact op_bad (-1) hI rfl (by rw [hMh g hM, m_if_pos h1, m_if_pos h2, m_if_pos h3, m_if_neg h4])
      · rw [m_if_pos h1, m_if_pos h2, m_if_neg h3]
        exact op_bad (-1) hI rfl (by rw [hMh g hM, m_if_pos h1, m_if_pos h2, m_if_neg h3])
    · rw [m_if_pos h1, m_if_neg h2]
      exact op_bad (-1) hI rfl (by rw [hMh g hM, m_if_pos h1, m_if_neg h2])
  · rw [m_if_neg h1]
    exact op_bad (-1) hI rfl (by rw [hMh g hM, m_if_neg h1])
