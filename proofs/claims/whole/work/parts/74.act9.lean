/-! OPERATIONS (34): act -/
def dD (m kd b : Nat) (x : Int32) (t : Tr) : Int32 × Tr := if m = 0 then dH kd b x t else if m = 1 then dP kd b x t else if m = 2 then dF kd b x t else dT kd b x t
theorem x_deed {b kd : Nat} {t : Tr} {g : mG} (hK : XK b kd t g) (hB : XB b g) (ht : t.1 + 19 < 1000) (d : Nat) (x3 : Int32) (m : Nat) (hm : m < 4) : Ok (ev none (d + 18) mm_X0_run 0 [.ref 39, .int (nI kd), .int (nI m), .int x3, .int (nI 0), .null, .null] [] g) (RK g b kd (dD m kd b x3 t)) := by
  have h4 : m = 0 ∨ m = 1 ∨ m = 2 ∨ m = 3 := by omega
  rcases h4 with rfl | rfl | rfl | rfl
  · exact x_hold hK (by omega) (d + 12) x3 kd 0 hK.2.1 (by omega)
  · exact x_pull hK hB (by omega) (d + 5) x3 0 (by omega)
  · exact x_free hK hB (by omega) (d + 9) x3 0 (by omega)
  · exact x_tell hK hB (by omega) d x3 0 (by omega)
theorem m_deed {b kd : Nat} {t : Tr} {g : mG} (hK : MK b kd t g) (ht : t.1 + 19 < 1000) (d : Nat) (x3 : Int32) (m : Nat) (hm : m < 4) : Ok (ev none (d + 9) mm_X12_act 19 [.ref 55, .int (nI b), .int (nI m), .int x3] [.int 1] g) (fun r g2 => r = some (.int (dD m kd b x3 t).1) ∧ MK b kd (dD m kd b x3 t).2 g2 ∧ Fr sTM g g2) := by
  rw [b_X12_act_19, m_if_neg (by decide)]
  have h4 : m = 0 ∨ m = 1 ∨ m = 2 ∨ m = 3 := by omega
  rcases h4 with rfl | rfl | rfl | rfl
  · rw [m_if_pos (by decide)]
    refine ok_bnd (m_holding hK (by omega) (d + 5) x3) ?_
    intro r g2 ⟨hr, q1, q2⟩
    subst hr
    rw [mp_some, b_X12_act_34, b_X12_act_71]
    exact ok_some ⟨rfl, q1, q2⟩
  · rw [m_if_neg (by decide), m_if_pos (by decide)]
    refine ok_bnd (m_pulling hK (by omega) (d + 2) x3) ?_
    intro r g2 ⟨hr, q1, q2⟩
    subst hr
    rw [mp_some, b_X12_act_48, b_X12_act_71]
    exact ok_some ⟨rfl, q1, q2⟩
  · rw [m_if_neg (by decide), m_if_neg (by decide), m_if_pos (by decide)]
    refine ok_bnd (m_freeing hK (by omega) (d + 4) x3) ?_
    intro r g2 ⟨hr, q1, q2⟩
    subst hr
    rw [mp_some, b_X12_act_62, b_X12_act_71]
    exact ok_some ⟨rfl, q1, q2⟩
  · rw [m_if_neg (by decide), m_if_neg (by decide), m_if_neg (by decide)]
    refine ok_bnd (m_telling hK (by omega) d x3) ?_
    intro r g2 ⟨hr, q1, q2⟩
    subst hr
    rw [mp_some, b_X12_act_71]
    exact ok_some ⟨rfl, q1, q2⟩
def sDD (c k : Nat) : Bool := (sTX c k || sTM c k) || (c == 39 && k == 4)
theorem inv_DD {g g' : mG} (F : Fr sDD g g') {n p nb : Nat} {W : mW} (hV : V n p g.1) (hR : RX n p g.1 g) (hC : I_C n p g) (hP : I_P g) (hL : I_L W g) (hG : I_G n p g) (hB : I_B nb g') (hS : I_S nb g) : Inv g' := by
  have e := F.1
  refine ⟨n, p, nb, W, ?_, ?_, ?_, ?_, ?_, ?_, hB, ?_⟩
  · unfold V
    simp only [e 55 1 rfl, e 55 4 rfl, e 56 _ rfl, e 57 _ rfl, e 58 _ rfl, e 59 _ rfl, e 60 _ rfl, e 61 _ rfl, e 62 _ rfl, e 63 _ rfl, e 64 _ rfl, e 65 _ rfl, e 55 13 rfl, e 55 14 rfl]
    exact hV
  · have e4 : g'.1 64 = g.1 64 := funext fun k => e 64 k rfl
    have e5 : g'.1 65 = g.1 65 := funext fun k => e 65 k rfl
    unfold RX
    simp only [e 1 12 rfl, e 1 13 rfl, e 2 _ rfl, e 3 _ rfl, e 10 _ rfl, e 4 _ rfl, e 5 _ rfl, e 6 _ rfl, e 7 _ rfl, e 8 _ rfl, e 9 _ rfl, e 1 14 rfl, e 1 15 rfl, e 1 16 rfl, e 1 17 rfl, e 56 _ rfl, e 57 _ rfl, e 58 _ rfl, e 59 _ rfl, e 60 _ rfl, e 61 _ rfl, e 62 _ rfl, e 63 _ rfl, e4, e5, e 66 _ rfl, e 55 13 rfl, e 55 14 rfl]
    exact hR
  · unfold I_C
    simp only [e 30 5 rfl, e 30 6 rfl, e 55 16 rfl, e 55 17 rfl, e 31 _ rfl, e 32 _ rfl, e 33 _ rfl, e 34 _ rfl, e 67 _ rfl, e 68 _ rfl, e 69 _ rfl, e 70 _ rfl]
    exact hC
  · unfold I_P
    simp only [e 16 2 rfl, e 55 23 rfl, e 17 _ rfl, e 71 _ rfl]
    exact hP
  · unfold I_L
    rw [e 12 2 rfl, e 55 35 rfl]
    rcases hL with h | ⟨h1, h2, h3, h4⟩
    · exact Or.inl h
    · exact Or.inr ⟨h1, h2, XL_fr (e 12 2 rfl) (fun k => e 13 k rfl) h3, ML_fr (fun k hk => ⟨e 72 k rfl, e 73 k rfl⟩) (e 74 0 rfl) (fun k hk => ⟨e 75 k rfl, e 76 k rfl⟩) h4⟩
  · unfold I_G
    simp only [e 35 8 rfl, e 55 50 rfl, e 35 3 rfl, e 35 4 rfl, e 35 5 rfl, e 35 6 rfl, e 35 7 rfl, e 55 51 rfl, e 55 52 rfl, e 55 53 rfl, e 36 _ rfl, e 37 _ rfl, e 38 _ rfl, e 83 _ rfl, e 84 _ rfl, e 85 _ rfl, e 86 _ rfl, e 87 _ rfl]
    exact hG
  · intro s hs
    have s43 : ∀ k, sDD (43 + 2 * s) k = false ∧ sDD (44 + 2 * s) k = false := fun k => lt6 (P := fun s => sDD (43 + 2 * s) k = false ∧ sDD (44 + 2 * s) k = false) hs ⟨rfl, rfl⟩ ⟨rfl, rfl⟩ ⟨rfl, rfl⟩ ⟨rfl, rfl⟩ ⟨rfl, rfl⟩ ⟨rfl, rfl⟩
    have e2 : g'.2 (44 + 2 * s) = g.2 (44 + 2 * s) := funext fun k => F.2 _ k (s43 k).2
    have e3 : g'.2 92 = g.2 92 := funext fun k => F.2 _ k rfl
    rw [e _ 1 (s43 1).1, e _ 2 (s43 2).1, e _ 3 (s43 3).1, e2, e3, e 90 s rfl, e 91 s rfl]
    exact hS s hs
theorem fr_TX {g g' : mG} (h : Fr sTX g g') : Fr sDD g g' := fr_mono h (fun c k e => by
  unfold sDD at e
  exact (Bool.or_eq_false_iff.mp (Bool.or_eq_false_iff.mp e).1).1)
theorem fr_TM {g g' : mG} (h : Fr sTM g g') : Fr sDD g g' := fr_mono h (fun c k e => by
  unfold sDD at e
  exact (Bool.or_eq_false_iff.mp (Bool.or_eq_false_iff.mp e).1).2)
theorem o_act : op_act Inv 1299 := by
  intro g hI a1 a2 a3
  obtain ⟨n, p, nb, W, hV, hR, hC, hP, hL, hG, ⟨r, b1, b2, b3, b4, b5, b6, b7, b8⟩, hS⟩ := hI
  have x3 : (m_s1 g 39 3 0).1 39 2 = nI nb := by rw [s1_same (by decide)]; exact b3
  rw [b_X11_act_0, b_X0_perform_0, v_hasBody _ _ a1 nb (by omega) x3, mb_some, mp_some, b_X0_perform_10, mi_b2]
  have bad : Inv (m_s1 (m_s1 g 39 3 0) 55 61 0) := by
    refine inv_DD (fr_s1 (fr_s1 fr_refl rfl) rfl) hV hR hC hP hL hG (nb := nb) ⟨0, b1, by omega, ?_, ?_, ?_, s1_at, fun i hi => ?_, fun i hi => ?_⟩ hS
    · rw [s1_ne (by omega), s1_same (by decide)]; exact b3
    · rw [s1_same (by decide), s1_ne (by omega)]; exact b4
    · rw [s1_ne (by omega), s1_at]; rfl
    · rw [s1_ne (by omega), s1_ne (by omega), s1_ne (by omega), s1_ne (by omega)]; exact b7 i hi
    · rw [s1_ne (by omega), s1_ne (by omega), s1_ne (by omega), s1_ne (by omega)]; exact b8 i hi
  have mst : ∀ g1 : mG, g1.1 55 59 = nI nb → ev none 1299 mm_X12_act 0 [.ref 55, .int a1, .int a2, .int a3] [] g1 = m_if (ix nb a1) (m_if (ix 4 a2) (ev none 1299 mm_X12_act 19 [.ref 55, .int a1, .int a2, .int a3] [.int 1] (m_s1 g1 55 61 0)) (some (some (.int 0), m_s1 g1 55 61 0))) (some (some (.int 0), m_s1 g1 55 61 0)) := by
    intro g1 h1
    have h2 : (m_s1 g1 55 61 0).1 55 59 = nI nb := by rw [s1_same (by decide)]; exact h1
    rw [b_X12_act_0, v_isBody _ _ a1 nb (by omega) h2, mb_some, mp_some, b_X12_act_10, mi_b2, v_in _ _ a2 3 4 (by omega) rfl, mb_some, mp_some]
    by_cases c : ix 4 a2
    · rw [m_if_pos c, b2_t c]
    · rw [m_if_neg c, b2_f c, b_X12_act_19, m_if_pos rfl]
  have x59 : (m_s1 g 39 3 0).1 55 59 = nI nb := by rw [s1_ne (by omega)]; exact b4
  by_cases c1 : ix nb a1
  · rw [m_if_pos c1]
    by_cases c2 : ix 4 a2
    · have c2' := (ix_lt (n := 4) (by omega)).mpr c2
      obtain ⟨b, hb, rfl⟩ := c1
      obtain ⟨m, hm, rfl⟩ := c2
      obtain ⟨e7, kd, hkd, ek⟩ := b7 b hb
      rw [m_if_neg c2'.1, m_if_pos (show nI m < 4 from c2'.2), mi_nI (by omega) (by omega), pk_cl b (hx := rfl), show (m_s1 g 39 3 0).1 40 b = nI kd by rw [s1_ne (by omega), e7, ek], show (Value.int 0) = Value.int (nI 0) from rfl]
      have hX : XK b kd (0, g.1 41) (m_s1 (m_s1 g 39 3 0) 39 4 (nI b)) := ⟨by omega, hkd, s1_at, by rw [s1_ne (by omega), s1_ne (by omega), e7, ek], by rw [s1_same (by decide), s1_at]; rfl, by show 0 < 1000; omega, fun k hk => by rw [s1_ne (by omega), s1_ne (by omega)]⟩
      have hXB : XB b (m_s1 (m_s1 g 39 3 0) 39 4 (nI b)) := ⟨nb, hb, b1, by rw [s1_same (by decide)]; exact x3⟩
      obtain ⟨r1, g1, h1, hr1, q1, q2⟩ := x_deed hX hXB (show 0 + 19 < 1000 by omega) 1279 a3 m hm
      subst hr1
      rw [h1, mb_some, mp_some, b_X0_perform_42, mb_some, mp_some, b_X11_act_10]
      have F1 : Fr sDD g g1 := fr_trans (fr_s1 (fr_s1 fr_refl rfl) rfl) (fr_TX q2)
      have hM : MK b kd (0, g.1 41) (m_s1 g1 55 61 0) := ⟨by omega, hkd, by rw [s1_ne (by omega), F1.1 88 b rfl, ek], s1_at, by show 0 < 1000; omega, fun k hk => by rw [s1_ne (by omega), q2.1 89 k rfl, s1_ne (by omega), s1_ne (by omega)]; exact (b8 k hk).symm⟩
      obtain ⟨r2, g2, h2, hr2, q3, q4⟩ := m_deed hM (show 0 + 19 < 1000 by omega) 1290 a3 m hm
      subst hr2
      refine ⟨_, g1, g2, rfl, ?_, ?_⟩
      · rw [mst g1 ((F1.1 55 59 rfl).trans b4), m_if_pos (ix_nI hb), m_if_pos (ix_nI hm)]
        exact h2
      · have F2 : Fr sDD g g2 := fr_trans (fr_s1 F1 rfl) (fr_TM q4)
        have y39 : ∀ k, g2.1 39 k = g1.1 39 k := fun k => (q4.1 39 k rfl).trans (s1_ne (by omega))
        refine inv_DD F2 hV hR hC hP hL hG (nb := nb) ⟨(dD m kd b a3 (0, g.1 41)).2.1, b1, q1.2.2.2.2.2.1, (F2.1 39 2 rfl).trans b3, (F2.1 55 59 rfl).trans b4, (y39 3).trans q1.2.2.2.2.1, q3.2.2.2.1, fun i hi => ?_, fun i hi => ?_⟩ hS
        · rw [F2.1 40 i rfl, F2.1 88 i rfl]; exact b7 i hi
        · rw [q3.2.2.2.2.2 i hi, q4.1 41 i rfl, s1_ne (by omega)]
          exact q1.2.2.2.2.2.2 i hi
    · have no : m_if (a2 < 0) (some (some (Value.int 0), m_s1 g 39 3 0)) (m_if (a2 < 4) (m_in a1 50 (m_bnd (ev none 1297 mm_X0_run 0 [.ref 39, .int ((m_s1 g 39 3 0).1 40 (Int32.toNatClampNeg a1)), .int a2, .int a3, .int 0, .null, .null] [] (m_s1 (m_s1 g 39 3 0) 39 4 a1)) (fun r g2 => ev none 1298 mm_X0_perform 42 [.ref 39, .int a1, .int a2, .int a3] (m_psh r []) g2))) (some (some (Value.int 0), m_s1 g 39 3 0))) = some (some (Value.int 0), m_s1 g 39 3 0) := by
        by_cases h0 : a2 < 0
        · rw [m_if_pos h0]
        · rw [m_if_neg h0, m_if_neg (show ¬ a2 < 4 from fun z => c2 ((ix_lt (n := 4) (by omega)).mp ⟨h0, z⟩))]
      refine ⟨0, m_s1 g 39 3 0, _, ?_, ?_, bad⟩
      · rw [no, mb_some, mp_some, b_X11_act_10]
      · rw [mst _ x59, m_if_pos c1, m_if_neg c2]
  · rw [m_if_neg c1, mb_some, mp_some, b_X11_act_10]
    refine ⟨0, _, _, rfl, ?_, bad⟩
    rw [mst _ x59, m_if_neg c1]
