/-! OPERATIONS (7): mend, undo, redo -/
/-- all that holds, its numbers named -/
def IV (n p nb : Nat) (W : mW) (g : mG) : Prop := V n p g.1 ∧ RX n p g.1 g ∧ I_C n p g ∧ I_P g ∧ I_L W g ∧ I_G n p g ∧ I_B nb g ∧ I_S nb g
/-- what the class writes, what the model writes -/
def wx (w a : Nat) (v : Int32) (g : mG) : mG := match w with
  | 0 => m_s1 g 2 a v
  | 1 => m_s1 g 3 a v
  | 2 => m_s1 g 6 a v
  | 3 => m_s1 g 7 a v
  | 4 => m_s1 g 8 a v
  | 5 => m_s1 g 9 a v
  | 6 => m_s1 g 1 14 ((g.1 1 14 &&& (((1 : Int32) <<< (nI a &&& 31)) ^^^ -1)) ||| (v <<< (nI a &&& 31)))
  | 7 => m_s1 g 1 15 ((g.1 1 15 &&& (((1 : Int32) <<< (nI a &&& 31)) ^^^ -1)) ||| (v <<< (nI a &&& 31)))
  | 8 => m_s1 g 1 16 v
  | _ => m_s1 g 1 17 v
def wm (w a : Nat) (v : Int32) (g : mG) : mG := match w with
  | 0 => m_s1 g 56 a v
  | 1 => m_s1 g 57 a v
  | 2 => m_s1 g 60 a v
  | 3 => m_s1 g 61 a v
  | 4 => m_s1 g 62 a v
  | 5 => m_s1 g 63 a v
  | 6 => m_s1 g 64 a v
  | 7 => m_s1 g 65 a v
  | 8 => m_s1 g 55 13 v
  | _ => m_s1 g 55 14 v
theorem BT_put {x : Int32} {f : Nat → Int32} {q b : Nat} (h : BT x f) (hq : q < 12) (hb : b < 2) : BT ((x &&& (((1 : Int32) <<< (nI q &&& 31)) ^^^ -1)) ||| (nI b <<< (nI q &&& 31))) (upd f q (nI b)) := by
  obtain ⟨F, h1, h2, h3⟩ := h
  have hp : 2 ^ q < 4096 := Nat.lt_of_lt_of_le (Nat.pow_lt_pow_right (by omega) hq) (by decide)
  have hb2 : b * 2 ^ q < 4096 := by
    rcases (show b = 0 ∨ b = 1 by omega) with e | e
    · subst e; omega
    · subst e; omega
  refine ⟨adn F (2 ^ q) ||| (b * 2 ^ q), Nat.or_lt_two_pow (n := 12) (Nat.lt_of_le_of_lt (adn_le _ _) h1) hb2, ?_, ?_⟩
  · rw [h2, t_sh1 q (by omega), t_not, t_shl (by omega) (by omega), t_or]
  · intro i hi
    have tbb : (b * 2 ^ q).testBit i = true ↔ i = q ∧ b = 1 := by
      rcases (show b = 0 ∨ b = 1 by omega) with e | e
      · subst e
        rw [Nat.zero_mul, Nat.zero_testBit]
        exact ⟨fun e => absurd e (by decide), fun e => absurd e.2 (by decide)⟩
      · subst e
        rw [Nat.one_mul, t_tb2, decide_eq_true_iff]
        exact ⟨fun e => ⟨e.symm, rfl⟩, fun e => e.1.symm⟩
    by_cases e : i = q
    · subst e
      rw [upd_at]
      rcases (show b = 0 ∨ b = 1 by omega) with e | e
      · subst e
        rw [b2_f]
        · rfl
        · rw [Nat.testBit_or, adn_bit, t_tb2, Bool.or_eq_true, tbb]
          rintro (c | c)
          · simp at c
          · exact absurd c.2 (by decide)
      · subst e
        rw [b2_t]
        · rfl
        · rw [Nat.testBit_or, Bool.or_eq_true, tbb]
          exact Or.inr ⟨rfl, rfl⟩
    · rw [upd_ne e, h3 i hi]
      refine b2_c ?_
      rw [Nat.testBit_or, adn_bit, t_tb2, Bool.or_eq_true, tbb, Bool.and_eq_true, Bool.not_eq_true', decide_eq_false_iff_not]
      constructor
      · exact fun c => Or.inl ⟨c, fun c2 => e c2.symm⟩
      · rintro (c | c)
        · exact c.1
        · exact absurd c.1 e
theorem IV_set {n p nb : Nat} {W : mW} {g : mG} (h : IV n p nb W g) (w a v : Nat) (hw : w < 10) (ha : a < 12) (hh : hnw n p w (nI a)) (hv : v < mx w) : IV n p nb W (wm w a (nI v) (wx w a (nI v) g)) := by
  obtain ⟨⟨v1, v2, v3, v4, v5, v6, v7, v8, v9, v10⟩, ⟨r1, r2, r3, r4, r5, r6, r7, r8⟩, hC, hP, hL, hG, hB, hS⟩ := h
  obtain ⟨b, e, hb, h1, h2, h3⟩ := hnw_nI v1 v2 hh
  have e' : a = b := (nI_eq (by omega) (by omega)).mp e
  subst e'
  clear hh e hb
  revert hv h1 h2 h3
  refine lt10 (P := fun w => v < mx w → (w < 2 → a < n) → (2 ≤ w → w ≠ 8 → w ≠ 9 → a < p) → (w = 8 ∨ w = 9 → a = 0) → IV n p nb W (wm w a (nI v) (wx w a (nI v) g))) hw ?_ ?_ ?_ ?_ ?_ ?_ ?_ ?_ ?_ ?_
  · intro hv h1 h2 h3
    exact ⟨⟨v1, v2, v3, v4, fun i hi => ⟨ix_upd ⟨v, hv, rfl⟩ (v5 i hi).1, (v5 i hi).2⟩, v6, v7, v8, v9, v10⟩, ⟨r1, r2, fun i hi => ⟨upd_eq rfl (r3 i hi).1, (r3 i hi).2⟩, r4, r5, r6, r7, r8⟩, hC, hP, hL, hG, hB, S_eq hS (fun _ => ⟨rfl, rfl, rfl, rfl, rfl, rfl⟩) rfl rfl rfl⟩
  · intro hv h1 h2 h3
    exact ⟨⟨v1, v2, v3, v4, fun i hi => ⟨(v5 i hi).1, ix_upd ⟨v, hv, rfl⟩ (v5 i hi).2⟩, v6, v7, v8, v9, v10⟩, ⟨r1, r2, fun i hi => ⟨(r3 i hi).1, upd_eq rfl (r3 i hi).2.1, (r3 i hi).2.2⟩, r4, r5, r6, r7, r8⟩, hC, hP, hL, hG, hB, S_eq hS (fun _ => ⟨rfl, rfl, rfl, rfl, rfl, rfl⟩) rfl rfl rfl⟩
  · intro hv h1 h2 h3
    exact ⟨⟨v1, v2, v3, v4, v5, fun i hi => ⟨(v6 i hi).1, (v6 i hi).2.1, ix_upd ⟨v, hv, rfl⟩ (v6 i hi).2.2.1, (v6 i hi).2.2.2.1, (v6 i hi).2.2.2.2.1, (v6 i hi).2.2.2.2.2⟩, v7, v8, v9, v10⟩, ⟨r1, r2, r3, fun i hi => ⟨(r4 i hi).1, (r4 i hi).2.1, upd_eq rfl (r4 i hi).2.2.1, (r4 i hi).2.2.2.1, (r4 i hi).2.2.2.2.1, (r4 i hi).2.2.2.2.2⟩, r5, r6, r7, r8⟩, hC, hP, hL, hG, hB, S_eq hS (fun _ => ⟨rfl, rfl, rfl, rfl, rfl, rfl⟩) rfl rfl rfl⟩
  · intro hv h1 h2 h3
    exact ⟨⟨v1, v2, v3, v4, v5, fun i hi => ⟨(v6 i hi).1, (v6 i hi).2.1, (v6 i hi).2.2.1, ix_upd ⟨v, hv, rfl⟩ (v6 i hi).2.2.2.1, (v6 i hi).2.2.2.2.1, (v6 i hi).2.2.2.2.2⟩, v7, v8, v9, v10⟩, ⟨r1, r2, r3, fun i hi => ⟨(r4 i hi).1, (r4 i hi).2.1, (r4 i hi).2.2.1, upd_eq rfl (r4 i hi).2.2.2.1, (r4 i hi).2.2.2.2.1, (r4 i hi).2.2.2.2.2⟩, r5, r6, r7, r8⟩, hC, hP, hL, hG, hB, S_eq hS (fun _ => ⟨rfl, rfl, rfl, rfl, rfl, rfl⟩) rfl rfl rfl⟩
  · intro hv h1 h2 h3
    exact ⟨⟨v1, v2, v3, v4, v5, fun i hi => ⟨(v6 i hi).1, (v6 i hi).2.1, (v6 i hi).2.2.1, (v6 i hi).2.2.2.1, ix_upd ⟨v, hv, rfl⟩ (v6 i hi).2.2.2.2.1, (v6 i hi).2.2.2.2.2⟩, v7, v8, v9, v10⟩, ⟨r1, r2, r3, fun i hi => ⟨(r4 i hi).1, (r4 i hi).2.1, (r4 i hi).2.2.1, (r4 i hi).2.2.2.1, upd_eq rfl (r4 i hi).2.2.2.2.1, (r4 i hi).2.2.2.2.2⟩, r5, r6, r7, r8⟩, hC, hP, hL, hG, hB, S_eq hS (fun _ => ⟨rfl, rfl, rfl, rfl, rfl, rfl⟩) rfl rfl rfl⟩
  · intro hv h1 h2 h3
    exact ⟨⟨v1, v2, v3, v4, v5, fun i hi => ⟨(v6 i hi).1, (v6 i hi).2.1, (v6 i hi).2.2.1, (v6 i hi).2.2.2.1, (v6 i hi).2.2.2.2.1, ix_upd ⟨v, hv, rfl⟩ (v6 i hi).2.2.2.2.2⟩, v7, v8, v9, v10⟩, ⟨r1, r2, r3, fun i hi => ⟨(r4 i hi).1, (r4 i hi).2.1, (r4 i hi).2.2.1, (r4 i hi).2.2.2.1, (r4 i hi).2.2.2.2.1, upd_eq rfl (r4 i hi).2.2.2.2.2⟩, r5, r6, r7, r8⟩, hC, hP, hL, hG, hB, S_eq hS (fun _ => ⟨rfl, rfl, rfl, rfl, rfl, rfl⟩) rfl rfl rfl⟩
  · intro hv h1 h2 h3
    exact ⟨⟨v1, v2, v3, v4, v5, v6, fun i hi => ⟨ix_upd ⟨v, hv, rfl⟩ (v7 i hi).1, (v7 i hi).2⟩, fun i hi hi2 => ⟨(upd_ne (by have := h2 (by omega) (by omega) (by omega); omega)).trans (v8 i hi hi2).1, (v8 i hi hi2).2⟩, v9, v10⟩, ⟨r1, r2, r3, r4, BT_put r5 ha hv, r6, r7, r8⟩, hC, hP, hL, hG, hB, S_eq hS (fun _ => ⟨rfl, rfl, rfl, rfl, rfl, rfl⟩) rfl rfl rfl⟩
  · intro hv h1 h2 h3
    exact ⟨⟨v1, v2, v3, v4, v5, v6, fun i hi => ⟨(v7 i hi).1, ix_upd ⟨v, hv, rfl⟩ (v7 i hi).2⟩, fun i hi hi2 => ⟨(v8 i hi hi2).1, (upd_ne (by have := h2 (by omega) (by omega) (by omega); omega)).trans (v8 i hi hi2).2⟩, v9, v10⟩, ⟨r1, r2, r3, r4, r5, BT_put r6 ha hv, r7, r8⟩, hC, hP, hL, hG, hB, S_eq hS (fun _ => ⟨rfl, rfl, rfl, rfl, rfl, rfl⟩) rfl rfl rfl⟩
  · intro hv h1 h2 h3
    exact ⟨⟨v1, v2, v3, v4, v5, v6, v7, v8, ⟨v, hv, rfl⟩, v10⟩, ⟨r1, r2, r3, r4, r5, r6, rfl, r8⟩, hC, hP, hL, hG, hB, S_eq hS (fun _ => ⟨rfl, rfl, rfl, rfl, rfl, rfl⟩) rfl rfl rfl⟩
  · intro hv h1 h2 h3
    exact ⟨⟨v1, v2, v3, v4, v5, v6, v7, v8, v9, ⟨v, hv, rfl⟩⟩, ⟨r1, r2, r3, r4, r5, r6, r7, rfl⟩, hC, hP, hL, hG, hB, S_eq hS (fun _ => ⟨rfl, rfl, rfl, rfl, rfl, rfl⟩) rfl rfl rfl⟩
theorem v_setNumber {n p : Nat} {g : mG} (hn : n ≤ 6) (hp : p ≤ 12) (h1 : g.1 1 12 = nI n) (h2 : g.1 1 13 = nI p) (d : Nat) (w a : Nat) (v : Int32) (hw : w < 10) (ha : a < 12) (hh : hnw n p w (nI a)) : ev none (d + 2) mm_X9_setNumber 0 [.ref 1, .int (nI a), .int (nI w), .int v] [] g = some (none, wx w a v g) := by
  have q12 : ∀ x : Option (Option Value × mG), m_in (nI a) 12 x = x := fun x => mi_nI ha (by omega)
  have q6 : w < 2 → ∀ x : Option (Option Value × mG), m_in (nI a) 6 x = x := fun c x => by
    obtain ⟨b, e, hb, h1, h2⟩ := hnw_nI hn hp hh
    have : a = b := (nI_eq (by omega) (by omega)).mp e
    exact mi_nI (by have := h1 c; omega) (by omega)
  rw [b_X9_setNumber_0, v_hasNumber _ g hn hp h1 h2 _ w (by omega), mb_some, mp_some, b_X9_setNumber_6, mi_b2, m_if_pos hh, pk_cl a (hx := rfl)]
  simp only [q12]
  clear hh
  revert q6
  refine lt10 (P := fun w => (w < 2 → ∀ x : Option (Option Value × mG), m_in (nI a) 6 x = x) → m_if (nI w = 0) _ (m_if (nI w = 1) _ (m_if (nI w = 2) _ (m_if (nI w = 3) _ (m_if (nI w = 4) _ (m_if (nI w = 5) _ (m_if (nI w = 6) _ (m_if (nI w = 7) _ (m_if (nI w = 8) _ (m_if (nI w = 9) _ _))))))))) = some (none, wx w a v g)) hw ?_ ?_ ?_ ?_ ?_ ?_ ?_ ?_ ?_ ?_
  · intro q6
    rw [m_if_pos (by decide), q6 (by omega)]; rfl
  · intro q6
    rw [m_if_neg (by decide), m_if_pos (by decide), q6 (by omega)]; rfl
  · intro q6
    rw [m_if_neg (by decide), m_if_neg (by decide), m_if_pos (by decide)]; rfl
  · intro q6
    rw [m_if_neg (by decide), m_if_neg (by decide), m_if_neg (by decide), m_if_pos (by decide)]; rfl
  · intro q6
    rw [m_if_neg (by decide), m_if_neg (by decide), m_if_neg (by decide), m_if_neg (by decide), m_if_pos (by decide)]; rfl
  · intro q6
    rw [m_if_neg (by decide), m_if_neg (by decide), m_if_neg (by decide), m_if_neg (by decide), m_if_neg (by decide), m_if_pos (by decide)]; rfl
  · intro q6
    rw [m_if_neg (by decide), m_if_neg (by decide), m_if_neg (by decide), m_if_neg (by decide), m_if_neg (by decide), m_if_neg (by decide), m_if_pos (by decide)]; rfl
  · intro q6
    rw [m_if_neg (by decide), m_if_neg (by decide), m_if_neg (by decide), m_if_neg (by decide), m_if_neg (by decide), m_if_neg (by decide), m_if_neg (by decide), m_if_pos (by decide)]; rfl
  · intro q6
    rw [m_if_neg (by decide), m_if_neg (by decide), m_if_neg (by decide), m_if_neg (by decide), m_if_neg (by decide), m_if_neg (by decide), m_if_neg (by decide), m_if_neg (by decide), m_if_pos (by decide)]; rfl
  · intro q6
    rw [m_if_neg (by decide), m_if_neg (by decide), m_if_neg (by decide), m_if_neg (by decide), m_if_neg (by decide), m_if_neg (by decide), m_if_neg (by decide), m_if_neg (by decide), m_if_neg (by decide), m_if_pos (by decide)]; rfl
theorem v_lays {n p : Nat} (hn : n ≤ 6) (hp : p ≤ 12) (d : Nat) (g : mG) (w a : Nat) (v : Int32) (hw : w < 10) (ha : a < 12) (hh : hnw n p w (nI a)) : ev none d mm_X12_lays 0 [.ref 55, .int (nI w), .int (nI a), .int v] [] g = some (none, wm w a v g) := by
  have q12 : ∀ x : Option (Option Value × mG), m_in (nI a) 12 x = x := fun x => mi_nI ha (by omega)
  have q6 : w < 2 → ∀ x : Option (Option Value × mG), m_in (nI a) 6 x = x := fun c x => by
    obtain ⟨b, e, hb, h1, h2⟩ := hnw_nI hn hp hh
    have : a = b := (nI_eq (by omega) (by omega)).mp e
    exact mi_nI (by have := h1 c; omega) (by omega)
  rw [b_X12_lays_0, pk_cl a (hx := rfl)]
  simp only [q12]
  clear hh
  revert q6
  refine lt10 (P := fun w => (w < 2 → ∀ x : Option (Option Value × mG), m_in (nI a) 6 x = x) → m_if (nI w = 0) _ (m_if (nI w = 1) _ (m_if (nI w = 2) _ (m_if (nI w = 3) _ (m_if (nI w = 4) _ (m_if (nI w = 5) _ (m_if (nI w = 6) _ (m_if (nI w = 7) _ (m_if (nI w = 8) _ _)))))))) = some (none, wm w a v g)) hw ?_ ?_ ?_ ?_ ?_ ?_ ?_ ?_ ?_ ?_
  · intro q6
    rw [m_if_pos (by decide), q6 (by omega)]; rfl
  · intro q6
    rw [m_if_neg (by decide), m_if_pos (by decide), q6 (by omega)]; rfl
  · intro q6
    rw [m_if_neg (by decide), m_if_neg (by decide), m_if_pos (by decide)]; rfl
  · intro q6
    rw [m_if_neg (by decide), m_if_neg (by decide), m_if_neg (by decide), m_if_pos (by decide)]; rfl
  · intro q6
    rw [m_if_neg (by decide), m_if_neg (by decide), m_if_neg (by decide), m_if_neg (by decide), m_if_pos (by decide)]; rfl
  · intro q6
    rw [m_if_neg (by decide), m_if_neg (by decide), m_if_neg (by decide), m_if_neg (by decide), m_if_neg (by decide), m_if_pos (by decide)]; rfl
  · intro q6
    rw [m_if_neg (by decide), m_if_neg (by decide), m_if_neg (by decide), m_if_neg (by decide), m_if_neg (by decide), m_if_neg (by decide), m_if_pos (by decide)]; rfl
  · intro q6
    rw [m_if_neg (by decide), m_if_neg (by decide), m_if_neg (by decide), m_if_neg (by decide), m_if_neg (by decide), m_if_neg (by decide), m_if_neg (by decide), m_if_pos (by decide)]; rfl
  · intro q6
    rw [m_if_neg (by decide), m_if_neg (by decide), m_if_neg (by decide), m_if_neg (by decide), m_if_neg (by decide), m_if_neg (by decide), m_if_neg (by decide), m_if_neg (by decide), m_if_pos (by decide)]; rfl
  · intro q6
    rw [m_if_neg (by decide), m_if_neg (by decide), m_if_neg (by decide), m_if_neg (by decide), m_if_neg (by decide), m_if_neg (by decide), m_if_neg (by decide), m_if_neg (by decide), m_if_neg (by decide)]; rfl
/-- the log of changes -/
def sC (c k : Nat) : Bool := (30 ≤ c && c ≤ 34) || (67 ≤ c && c ≤ 70) || (c == 55 && (k == 16 || k == 17))
/-- frames of what is written -/
theorem wx_fr {S : Nat → Nat → Bool} {g g' : mG} {w a : Nat} {v : Int32} (F : Fr S g g') (h4 : S 1 14 = false) (h5 : S 1 15 = false) : Fr S (wx w a v g) (wx w a v g') := by
  unfold wx
  split
  · exact fr_w F rfl
  · exact fr_w F rfl
  · exact fr_w F rfl
  · exact fr_w F rfl
  · exact fr_w F rfl
  · exact fr_w F rfl
  · exact fr_w F (by rw [F.1 1 14 h4])
  · exact fr_w F (by rw [F.1 1 15 h5])
  · exact fr_w F rfl
  · exact fr_w F rfl
theorem wm_fr {S : Nat → Nat → Bool} {g g' : mG} {w a : Nat} {v : Int32} (F : Fr S g g') : Fr S (wm w a v g) (wm w a v g') := by
  unfold wm
  split <;> exact fr_w F rfl
/-- cells that are no town's -/
theorem wx_ne {g : mG} {w a : Nat} {v : Int32} {c k : Nat} (hc : 11 ≤ c) : (wx w a v g).1 c k = g.1 c k := by
  unfold wx
  split <;> exact s1_ne (by omega)
theorem wm_ne {g : mG} {w a : Nat} {v : Int32} {c k : Nat} (hc : c < 55 ∨ 66 ≤ c) : (wm w a v g).1 c k = g.1 c k := by
  unfold wm
  split <;> exact s1_ne (by omega)
theorem wm_55 {g : mG} {w a : Nat} {v : Int32} {k : Nat} (hk : k ≠ 13) (hk2 : k ≠ 14) : (wm w a v g).1 55 k = g.1 55 k := by
  unfold wm
  split <;> first | exact s1_same hk | exact s1_same hk2 | exact s1_ne (by omega)
theorem wx_2 {g : mG} {w a : Nat} {v : Int32} : (wx w a v g).2 = g.2 := by
  unfold wx
  split <;> rfl
theorem wm_2 {g : mG} {w a : Nat} {v : Int32} : (wm w a v g).2 = g.2 := by
  unfold wm
  split <;> rfl
theorem V_frC {n p : Nat} {g g' : mG} (F : Fr sC g g') (h : V n p g.1) : V n p g'.1 := by
  have e := F.1
  unfold V
  simp only [e 55 1 rfl, e 55 4 rfl, e 56 _ rfl, e 57 _ rfl, e 58 _ rfl, e 59 _ rfl, e 60 _ rfl, e 61 _ rfl, e 62 _ rfl, e 63 _ rfl, e 64 _ rfl, e 65 _ rfl, e 55 13 rfl, e 55 14 rfl]
  exact h
theorem RX_frC {n p : Nat} {g g' : mG} (F : Fr sC g g') (hR : RX n p g.1 g) : RX n p g'.1 g' := by
  have e := F.1
  have e4 : g'.1 64 = g.1 64 := funext fun k => e 64 k rfl
  have e5 : g'.1 65 = g.1 65 := funext fun k => e 65 k rfl
  unfold RX
  simp only [e 1 12 rfl, e 1 13 rfl, e 2 _ rfl, e 3 _ rfl, e 10 _ rfl, e 4 _ rfl, e 5 _ rfl, e 6 _ rfl, e 7 _ rfl, e 8 _ rfl, e 9 _ rfl, e 1 14 rfl, e 1 15 rfl, e 1 16 rfl, e 1 17 rfl, e 56 _ rfl, e 57 _ rfl, e 58 _ rfl, e 59 _ rfl, e 60 _ rfl, e 61 _ rfl, e 62 _ rfl, e 63 _ rfl, e4, e5, e 66 _ rfl, e 55 13 rfl, e 55 14 rfl]
  exact hR
theorem P_frC {g g' : mG} (F : Fr sC g g') (h : I_P g) : I_P g' := by
  have e := F.1
  unfold I_P
  simp only [e 16 2 rfl, e 55 23 rfl, e 17 _ rfl, e 71 _ rfl]
  exact h
theorem L_frC {W : mW} {g g' : mG} (F : Fr sC g g') (h : I_L W g) : I_L W g' := by
  have e := F.1
  unfold I_L
  rw [e 12 2 rfl, e 55 35 rfl]
  rcases h with h | ⟨h1, h2, h3, h4⟩
  · exact Or.inl h
  · exact Or.inr ⟨h1, h2, XL_fr (e 12 2 rfl) (fun k => e 13 k rfl) h3, ML_fr (fun k hk => ⟨e 72 k rfl, e 73 k rfl⟩) (e 74 0 rfl) (fun k hk => ⟨e 75 k rfl, e 76 k rfl⟩) h4⟩
theorem G_frC {n p : Nat} {g g' : mG} (F : Fr sC g g') (h : I_G n p g) : I_G n p g' := by
  have e := F.1
  unfold I_G
  simp only [e 35 8 rfl, e 55 50 rfl, e 35 3 rfl, e 35 4 rfl, e 35 5 rfl, e 35 6 rfl, e 35 7 rfl, e 55 51 rfl, e 55 52 rfl, e 55 53 rfl, e 36 _ rfl, e 37 _ rfl, e 38 _ rfl, e 83 _ rfl, e 84 _ rfl, e 85 _ rfl, e 86 _ rfl, e 87 _ rfl]
  exact h
theorem B_frC {nb : Nat} {g g' : mG} (F : Fr sC g g') (h : I_B nb g) : I_B nb g' := by
  have e := F.1
  unfold I_B
  simp only [e 39 2 rfl, e 55 59 rfl, e 39 3 rfl, e 55 61 rfl, e 40 _ rfl, e 88 _ rfl, e 41 _ rfl, e 89 _ rfl]
  exact h
theorem S_frC {nb : Nat} {g g' : mG} (F : Fr sC g g') (h : I_S nb g) : I_S nb g' := by
  intro s hs
  have e := F.1
  have k1 : ∀ k, sC (43 + 2 * s) k = false ∧ sC (44 + 2 * s) k = false := fun k => lt6 (P := fun s => sC (43 + 2 * s) k = false ∧ sC (44 + 2 * s) k = false) hs ⟨rfl, rfl⟩ ⟨rfl, rfl⟩ ⟨rfl, rfl⟩ ⟨rfl, rfl⟩ ⟨rfl, rfl⟩ ⟨rfl, rfl⟩
  have e2 : g'.2 (44 + 2 * s) = g.2 (44 + 2 * s) := funext fun k => F.2 _ k (k1 k).2
  have e3 : g'.2 92 = g.2 92 := funext fun k => F.2 _ k rfl
  rw [e _ 1 (k1 1).1, e _ 2 (k1 2).1, e _ 3 (k1 3).1, e2, e3, e 90 s rfl, e 91 s rfl]
  exact h s hs
theorem IV_frC {n p nb : Nat} {W : mW} {g g' : mG} (F : Fr sC g g') (h : IV n p nb W g) (hc : I_C n p g') : IV n p nb W g' := by
  obtain ⟨h1, h2, h3, h4, h5, h6, h7, h8⟩ := h
  exact ⟨V_frC F h1, RX_frC F h2, hc, P_frC F h4, L_frC F h5, G_frC F h6, B_frC F h7, S_frC F h8⟩
