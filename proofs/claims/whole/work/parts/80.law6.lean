/-! LAW (6): chains of every level, read by both -/
theorem t_as3 {l a c : List TS} {s : TS} : l ++ ((a ++ c) ++ [s]) = ((l ++ a) ++ c) ++ [s] := by
  rw [← List.append_assoc, ← List.append_assoc]
theorem t_bin {c : Nat} {a e : List TS} : ((a ++ e) ++ [(c, 0)]).length = a.length + e.length + 1 := by
  rw [t_len, List.length_append]
theorem jc_loop {L : Nat} {b : Nat → Nat} {lv o : Nat} (hlv : lv = 0 ∨ lv = 1 ∨ lv = 3 ∨ lv = 4) (hs : ∀ i, i ≤ L → JC L b (lv + 1) o i) : ∀ m j i e, L - j ≤ m → j ≤ L → i < j → i + e.length ≤ j → tok e → ∃ R, TRW L i R ∧ (∀ d g l k v5, 10 * (6 - o) + 13 - lv ≤ d → l.length ≤ i → k < j - i → TXS L b j (l ++ e) g → Ok (ev none d mm_X8_readChain 39 [.ref 16, .int (nI lv), .int (nI o), .int (nI 120), .int (nI k), v5] [] g) (TXQ L b g l R)) ∧ (∀ d g l v, 10 * (6 - o) + 13 - lv ≤ d → l.length ≤ i → TMS L b j o (l ++ e) g → Ok (TLM lv d v g) (TMQ L b o i g l R)) := by
  intro m
  induction m with
  | zero =>
    intro j i e hm hj hij hle he
    have hT : ¬ top lv (tch L b j) := fun z => by
      have n := tbo_n (top_bo z)
      have := tch_L (L := L) (b := b) (i := j) (by omega)
      omega
    refine ⟨(j, some e), ⟨hij, hj, hle, he⟩, ?_, ?_⟩
    · intro d g l k v5 dd hl hk h
      obtain ⟨d, rfl⟩ : ∃ e, d = e + 1 := ⟨d - 1, by omega⟩
      rw [xc_stop h.1 h.2.1 h.2.2.1 (by omega) hT]
      exact ok_some ⟨rfl, h, fr_refl⟩
    · intro d g l v dd hl h
      obtain ⟨d, rfl⟩ : ∃ e, d = e + 1 := ⟨d - 1, by omega⟩
      rw [lm_stop hlv h hT]
      exact ok_some ⟨rfl, h, fr_refl⟩
  | succ m ih =>
    intro j i e hm hj hij hle he
    by_cases hT : top lv (tch L b j)
    · have n := tbo_n (top_bo hT)
      have hjL : j < L := tch_L (L := L) (b := b) (by omega)
      obtain ⟨R1, w1, x1, m1⟩ := hs (j + 1) (by omega)
      match R1, w1, x1, m1 with
      | (j2, some e2), w1, x1, m1 =>
        obtain ⟨w2, w3, w4, w5⟩ := w1
        obtain ⟨R, w, x, mm⟩ := ih j2 i ((e ++ e2) ++ [(tch L b j, 0)]) (by omega) w3 (by omega) (by rw [t_bin]; omega) (tok_bin (top_bo hT) he w5)
        refine ⟨R, w, ?_, ?_⟩
        · intro d g l k v5 dd hl hk h
          obtain ⟨d, rfl⟩ : ∃ e, d = e + 1 := ⟨d - 1, by omega⟩
          have h120 := h.1.1
          rw [xc_go h.1 h.2.1 h.2.2.1 hT d _ _ _ _ (nI_lt (by omega) (by omega))]
          obtain ⟨q1, q2⟩ := x_on h hjL
          refine ok_bnd (x1 d _ (l ++ e) (by omega) (by rw [List.length_append]; omega) q1) ?_
          intro r g3 ⟨hr, q3, q4⟩
          subst hr
          rw [mp_some, b_X8_readChain_80, m_if_neg (by decide)]
          refine ok_bnd (x_write q3 (by rw [List.length_append, List.length_append]; omega) d (tch L b j, 0) _ (tcc_bo (top_bo hT)).symm) ?_
          intro r g4 ⟨hr, q5, q6⟩
          subst hr
          rw [mp_none, b_X8_readChain_91, nI_1]
          rw [← t_as3] at q5
          refine ok_mono (x (d + 1) g4 l (k + 1) _ dd hl (by omega) q5) ?_
          intro r g5 q
          exact xq_fr (fr_trans q2 (fr_trans q4 q6)) q
        · intro d g l v dd hl h
          obtain ⟨d, rfl⟩ : ∃ e, d = e + 1 := ⟨d - 1, by omega⟩
          have h120 := h.1.1
          refine lm_go hlv h hT d v ?_
          obtain ⟨q1, q2⟩ := m_on h hjL
          refine ok_mono (m1 d _ (l ++ e) (by omega) (by rw [List.length_append]; omega) q1) ?_
          intro r g3 ⟨hr, q3, q4⟩
          refine ⟨hr, ?_⟩
          refine ok_mono (m_addStep q3 (by rw [List.length_append, List.length_append]; omega) d (tch L b j, 0) n.2) ?_
          intro r g4 ⟨hr, q5, q6⟩
          refine ⟨hr, fun v' => ?_⟩
          rw [← t_as3] at q5
          refine ok_mono (mm (d + 1) g4 l v' dd hl q5) ?_
          intro r g5 q
          exact mq_fr (fr_trans q2 (fr_trans q4 q6)) q
      | (f, none), w1, x1, m1 =>
        obtain ⟨w2, w3⟩ := w1
        refine ⟨(f, none), ⟨by omega, w3⟩, ?_, ?_⟩
        · intro d g l k v5 dd hl hk h
          obtain ⟨d, rfl⟩ : ∃ e, d = e + 1 := ⟨d - 1, by omega⟩
          have h120 := h.1.1
          rw [xc_go h.1 h.2.1 h.2.2.1 hT d _ _ _ _ (nI_lt (by omega) (by omega))]
          obtain ⟨q1, q2⟩ := x_on h hjL
          refine ok_bnd (x1 d _ (l ++ e) (by omega) (by rw [List.length_append]; omega) q1) ?_
          intro r g3 ⟨hr, q3, q4⟩
          rcases hr with hr | ⟨hr, hdg⟩
          · subst hr
            rw [mp_some, b_X8_readChain_80, m_if_pos rfl]
            exact ok_some ⟨Or.inl rfl, q3, fr_trans q2 q4⟩
          · subst hr
            rw [mp_some, b_X8_readChain_80, m_if_neg (by decide)]
            refine ok_bnd (x_writeF q3 d _) ?_
            intro r g4 ⟨hr, q5, q6⟩
            subst hr
            rw [mp_none, b_X8_readChain_91, xc_stop q5.1 q5.2.1 q5.2.2.1 (by omega) (top_dg hdg)]
            exact ok_some ⟨Or.inr ⟨rfl, hdg⟩, q5, fr_trans q2 (fr_trans q4 q6)⟩
        · intro d g l v dd hl h
          obtain ⟨d, rfl⟩ : ∃ e, d = e + 1 := ⟨d - 1, by omega⟩
          have h120 := h.1.1
          refine lm_go hlv h hT d v ?_
          obtain ⟨q1, q2⟩ := m_on h hjL
          refine ok_mono (m1 d _ (l ++ e) (by omega) (by rw [List.length_append]; omega) q1) ?_
          intro r g3 ⟨hr, q3, q4⟩
          refine ⟨hr, ?_⟩
          rw [List.length_append] at q3
          refine ok_mono (m_addStepF q3 (by omega) d _ _) ?_
          intro r g4 ⟨hr, q5, q6⟩
          refine ⟨hr, fun v' => ?_⟩
          rw [lm_F hlv q5]
          exact ok_some ⟨rfl, tmf_le q5 (by omega), fr_trans q2 (fr_trans q4 q6)⟩
    · refine ⟨(j, some e), ⟨hij, hj, hle, he⟩, ?_, ?_⟩
      · intro d g l k v5 dd hl hk h
        obtain ⟨d, rfl⟩ : ∃ e, d = e + 1 := ⟨d - 1, by omega⟩
        rw [xc_stop h.1 h.2.1 h.2.2.1 (by omega) hT]
        exact ok_some ⟨rfl, h, fr_refl⟩
      · intro d g l v dd hl h
        obtain ⟨d, rfl⟩ : ∃ e, d = e + 1 := ⟨d - 1, by omega⟩
        rw [lm_stop hlv h hT]
        exact ok_some ⟨rfl, h, fr_refl⟩
theorem xc_start {lv o d : Nat} {g : mG} (hl : lv < 5) {Q : Option Value → mG → Prop} (hq : Ok (ev none d mm_X8_readChain 0 [.ref 16, .int (nI (lv + 1)), .int (nI o), .null, .null, .null] [] g) (fun r g2 => (r = some (.int 0) ∧ Q (some (.int 0)) g2) ∨ (r = some (.int 1) ∧ Ok (ev none (d + 1) mm_X8_readChain 39 [.ref 16, .int (nI lv), .int (nI o), .int (if lv = 2 then nI 1 else nI 120), .int (nI 0), .null] [] g2) Q))) : Ok (ev none (d + 1) mm_X8_readChain 0 [.ref 16, .int (nI lv), .int (nI o), .null, .null, .null] [] g) Q := by
  rw [b_X8_readChain_0, m_if_pos (show nI lv < 5 from nI_lt (b := 5) hl (by omega)), nI_1]
  refine ok_bnd hq ?_
  intro r g2 h
  rcases h with ⟨hr, h⟩ | ⟨hr, h⟩
  · subst hr
    rw [mp_some, b_X8_readChain_19, m_if_pos rfl]
    exact ok_some h
  · subst hr
    rw [mp_some, b_X8_readChain_19, m_if_neg (by decide)]
    by_cases c : lv = 2
    · rw [m_if_pos (show nI lv = 2 by rw [c]; rfl), b_X8_readChain_35]
      rw [if_pos c] at h
      exact h
    · rw [m_if_neg (show ¬ nI lv = 2 from fun z => c ((nI_eq (a := lv) (b := 2) (by omega) (by omega)).mp z)), b_X8_readChain_35]
      rw [if_neg c] at h
      exact h
theorem jc_step {L : Nat} {b : Nat → Nat} {lv o : Nat} (hlv : lv = 0 ∨ lv = 1 ∨ lv = 3 ∨ lv = 4) (hs : ∀ i, i ≤ L → JC L b (lv + 1) o i) : ∀ i, i ≤ L → JC L b lv o i := by
  intro i hi
  obtain ⟨R1, w1, x1, m1⟩ := hs i hi
  match R1, w1, x1, m1 with
  | (j, some e), w1, x1, m1 =>
    obtain ⟨w2, w3, w4, w5⟩ := w1
    obtain ⟨R, w, x, m⟩ := jc_loop hlv hs (L - j) j i e (by omega) w3 w2 w4 w5
    refine ⟨R, w, ?_, ?_⟩
    · intro d g l dd hl h
      obtain ⟨d, rfl⟩ : ∃ e, d = e + 1 := ⟨d - 1, by omega⟩
      refine xc_start (by omega) (ok_mono (x1 d g l (by omega) hl h) ?_)
      intro r g2 ⟨hr, q1, q2⟩
      refine Or.inr ⟨hr, ?_⟩
      rw [if_neg (show ¬ lv = 2 by omega)]
      refine ok_mono (x (d + 1) g2 l 0 _ dd hl (by omega) q1) ?_
      intro r g3 q
      exact xq_fr q2 q
    · intro d g l dd hl h
      obtain ⟨d, rfl⟩ : ∃ e, d = e + 1 := ⟨d - 1, by omega⟩
      refine lm_start hlv (ok_mono (m1 d g l (by omega) hl h) ?_)
      intro r g2 ⟨hr, q1, q2⟩
      refine ⟨hr, fun v => ?_⟩
      refine ok_mono (m (d + 1) g2 l v dd hl q1) ?_
      intro r g3 q
      exact mq_fr q2 q
  | (f, none), w1, x1, m1 =>
    refine ⟨(f, none), w1, ?_, ?_⟩
    · intro d g l dd hl h
      obtain ⟨d, rfl⟩ : ∃ e, d = e + 1 := ⟨d - 1, by omega⟩
      refine xc_start (by omega) (ok_mono (x1 d g l (by omega) hl h) ?_)
      intro r g2 ⟨hr, q1, q2⟩
      rcases hr with hr | ⟨hr, hdg⟩
      · exact Or.inl ⟨hr, Or.inl rfl, q1, q2⟩
      · refine Or.inr ⟨hr, ?_⟩
        rw [xc_stop q1.1 q1.2.1 q1.2.2.1 (by omega) (top_dg hdg)]
        exact ok_some ⟨Or.inr ⟨rfl, hdg⟩, q1, q2⟩
    · intro d g l dd hl h
      obtain ⟨d, rfl⟩ : ∃ e, d = e + 1 := ⟨d - 1, by omega⟩
      refine lm_start hlv (ok_mono (m1 d g l (by omega) hl h) ?_)
      intro r g2 ⟨hr, q1, q2⟩
      refine ⟨hr, fun v => ?_⟩
      rw [lm_F hlv q1]
      exact ok_some ⟨rfl, q1, q2⟩
theorem cm_start {d : Nat} {g : mG} {Q : Option Value → mG → Prop} (hq : Ok (EM 3 d g) (fun r g2 => r = none ∧ Ok (ev none (d + 1) mm_X12_compared 4 [.ref 55, .null] [] g2) Q)) : Ok (EM 2 (d + 1) g) Q := by
  show Ok (ev none (d + 1) mm_X12_compared 0 [.ref 55, .null] [] g) Q
  rw [b_X12_compared_0]
  refine ok_bnd hq ?_
  intro r g2 ⟨hr, q⟩
  subst hr
  exact q
theorem cm_F {L : Nat} {b : Nat → Nat} {f n : Nat} {g : mG} (h : TMF L b f n g) (d : Nat) : ev none (d + 1) mm_X12_compared 4 [.ref 55, .null] [] g = some (none, g) := by
  have h120 := h.1.1
  have hf := h.2.1
  have nf : ¬ g.1 55 25 < 0 := by rw [h.2.2.2.1]; exact nI_pos (n := f) (by omega)
  rw [b_X12_compared_4, v_look h.1 h.2.1 h.2.2.1, mb_some, mp_some, b_X12_compared_8, m_if_neg nf]
theorem cm_stop {L : Nat} {b : Nat → Nat} {j o : Nat} {l : List TS} {g : mG} (h : TMS L b j o l g) (hT : ¬ top 2 (tch L b j)) (d : Nat) : ev none (d + 1) mm_X12_compared 4 [.ref 55, .null] [] g = some (none, g) := by
  have hb := ttp_b h.1 j
  have no : ∀ c, 0 < c → c < 128 → top 2 c → ¬ tlm L b j = nI c := fun c h0 hc hh e => hT (by rw [(tlm_eq hb h0 hc).mp e]; exact hh)
  have nf : g.1 55 25 < 0 := by rw [h.2.2.2.1]; exact tm1
  unfold top at no
  rw [b_X12_compared_4, v_look h.1 h.2.1 h.2.2.1, mb_some, mp_some, b_X12_compared_8, m_if_pos nf, m_if_neg (show ¬ tlm L b j = 60 from no 60 (by omega) (by omega) (by omega)), m_if_neg (show ¬ tlm L b j = 61 from no 61 (by omega) (by omega) (by omega)), m_if_neg (show ¬ tlm L b j = 62 from no 62 (by omega) (by omega) (by omega))]
theorem cm_go {L : Nat} {b : Nat → Nat} {j o : Nat} {l : List TS} {g : mG} (h : TMS L b j o l g) (hT : top 2 (tch L b j)) (d : Nat) {Q : Option Value → mG → Prop} (hq : Ok (EM 3 d (m_s1 g 55 24 (g.1 55 24 + 1))) (fun r g2 => r = none ∧ Ok (ev none d mm_X12_addStep 0 [.ref 55, .int (nI (tch L b j)), .int (nI 0)] [] g2) (fun r g3 => r = none ∧ Q none g3))) : Ok (ev none (d + 1) mm_X12_compared 4 [.ref 55, .null] [] g) Q := by
  have hb := ttp_b h.1 j
  have n := tbo_n (top_bo hT)
  have e := (tlm_eq (i := j) (c := tch L b j) hb (by omega) n.2).mpr rfl
  have nf : g.1 55 25 < 0 := by rw [h.2.2.2.1]; exact tm1
  have go : Ok (ev none (d + 1) mm_X12_compared 35 [.ref 55, .int (nI (tch L b j))] [] g) Q := by
    rw [b_X12_compared_35]
    refine ok_bnd hq ?_
    intro r g2 ⟨hr, q⟩
    subst hr
    rw [mp_none, b_X12_compared_49]
    refine ok_bnd q ?_
    intro r g3 ⟨hr, q⟩
    subst hr
    rw [mp_none, b_X12_compared_55]
    exact ok_some q
  rw [b_X12_compared_4, v_look h.1 h.2.1 h.2.2.1, mb_some, mp_some, b_X12_compared_8, m_if_pos nf, e]
  have hc : tch L b j = 60 ∨ tch L b j = 61 ∨ tch L b j = 62 := by unfold top at hT; omega
  rcases hc with hc | hc | hc
  · rw [hc] at go ⊢
    rw [m_if_pos (by decide)]
    exact go
  · rw [hc] at go ⊢
    rw [m_if_neg (by decide), m_if_pos (by decide)]
    exact go
  · rw [hc] at go ⊢
    rw [m_if_neg (by decide), m_if_neg (by decide), m_if_pos (by decide)]
    exact go
theorem jc_cmp {L : Nat} {b : Nat → Nat} {o : Nat} (hs : ∀ i, i ≤ L → JC L b 3 o i) : ∀ i, i ≤ L → JC L b 2 o i := by
  intro i hi
  obtain ⟨R1, w1, x1, m1⟩ := hs i hi
  have end1 : ∀ d g x5, ev none (d + 1) mm_X8_readChain 39 [.ref 16, .int (nI 2), .int (nI o), .int (nI 1), .int (nI 1), x5] [] g = some (some (.int 1), g) := by
    intro d g x5
    rw [b_X8_readChain_39, m_if_neg (by decide)]
  match R1, w1, x1, m1 with
  | (j, some e), w1, x1, m1 =>
    obtain ⟨w2, w3, w4, w5⟩ := w1
    by_cases hT : top 2 (tch L b j)
    · have n := tbo_n (top_bo hT)
      have hjL : j < L := tch_L (L := L) (b := b) (by omega)
      obtain ⟨R2, y1, x2, m2⟩ := hs (j + 1) (by omega)
      match R2, y1, x2, m2 with
      | (j2, some e2), y1, x2, m2 =>
        obtain ⟨y2, y3, y4, y5⟩ := y1
        refine ⟨(j2, some ((e ++ e2) ++ [(tch L b j, 0)])), ⟨by omega, y3, by rw [t_bin]; omega, tok_bin (top_bo hT) w5 y5⟩, ?_, ?_⟩
        · intro d g l dd hl h
          obtain ⟨d, rfl⟩ : ∃ e, d = e + 1 := ⟨d - 1, by omega⟩
          have h120 := h.1.1
          refine xc_start (by omega) (ok_mono (x1 d g l (by omega) hl h) ?_)
          intro r g2 ⟨hr, q1, q2⟩
          refine Or.inr ⟨hr, ?_⟩
          rw [if_pos rfl, xc_go q1.1 q1.2.1 q1.2.2.1 hT d _ _ _ _ (by decide)]
          obtain ⟨q3, q4⟩ := x_on q1 hjL
          refine ok_bnd (x2 d _ (l ++ e) (by omega) (by rw [List.length_append]; omega) q3) ?_
          intro r g3 ⟨hr, q5, q6⟩
          subst hr
          rw [mp_some, b_X8_readChain_80, m_if_neg (by decide)]
          refine ok_bnd (x_write q5 (by rw [List.length_append, List.length_append]; omega) d (tch L b j, 0) _ (tcc_bo (top_bo hT)).symm) ?_
          intro r g4 ⟨hr, q7, q8⟩
          subst hr
          rw [mp_none, b_X8_readChain_91, nI_1, end1]
          rw [← t_as3] at q7
          exact ok_some ⟨rfl, q7, fr_trans q2 (fr_trans q4 (fr_trans q6 q8))⟩
        · intro d g l dd hl h
          obtain ⟨d, rfl⟩ : ∃ e, d = e + 1 := ⟨d - 1, by omega⟩
          have h120 := h.1.1
          refine cm_start (ok_mono (m1 d g l (by omega) hl h) ?_)
          intro r g2 ⟨hr, q1, q2⟩
          refine ⟨hr, cm_go q1 hT d ?_⟩
          obtain ⟨q3, q4⟩ := m_on q1 hjL
          refine ok_mono (m2 d _ (l ++ e) (by omega) (by rw [List.length_append]; omega) q3) ?_
          intro r g3 ⟨hr, q5, q6⟩
          refine ⟨hr, ?_⟩
          refine ok_mono (m_addStep q5 (by rw [List.length_append, List.length_append]; omega) d (tch L b j, 0) n.2) ?_
          intro r g4 ⟨hr, q7, q8⟩
          rw [← t_as3] at q7
          exact ⟨hr, rfl, q7, fr_trans q2 (fr_trans q4 (fr_trans q6 q8))⟩
      | (f, none), y1, x2, m2 =>
        obtain ⟨y2, y3⟩ := y1
        refine ⟨(f, none), ⟨by omega, y3⟩, ?_, ?_⟩
        · intro d g l dd hl h
          obtain ⟨d, rfl⟩ : ∃ e, d = e + 1 := ⟨d - 1, by omega⟩
          have h120 := h.1.1
          refine xc_start (by omega) (ok_mono (x1 d g l (by omega) hl h) ?_)
          intro r g2 ⟨hr, q1, q2⟩
          refine Or.inr ⟨hr, ?_⟩
          rw [if_pos rfl, xc_go q1.1 q1.2.1 q1.2.2.1 hT d _ _ _ _ (by decide)]
          obtain ⟨q3, q4⟩ := x_on q1 hjL
          refine ok_bnd (x2 d _ (l ++ e) (by omega) (by rw [List.length_append]; omega) q3) ?_
          intro r g3 ⟨hr, q5, q6⟩
          rcases hr with hr | ⟨hr, hdg⟩
          · subst hr
            rw [mp_some, b_X8_readChain_80, m_if_pos rfl]
            exact ok_some ⟨Or.inl rfl, q5, fr_trans q2 (fr_trans q4 q6)⟩
          · subst hr
            rw [mp_some, b_X8_readChain_80, m_if_neg (by decide)]
            refine ok_bnd (x_writeF q5 d _) ?_
            intro r g4 ⟨hr, q7, q8⟩
            subst hr
            rw [mp_none, b_X8_readChain_91, nI_1, end1]
            exact ok_some ⟨Or.inr ⟨rfl, hdg⟩, q7, fr_trans q2 (fr_trans q4 (fr_trans q6 q8))⟩
        · intro d g l dd hl h
          obtain ⟨d, rfl⟩ : ∃ e, d = e + 1 := ⟨d - 1, by omega⟩
          have h120 := h.1.1
          refine cm_start (ok_mono (m1 d g l (by omega) hl h) ?_)
          intro r g2 ⟨hr, q1, q2⟩
          refine ⟨hr, cm_go q1 hT d ?_⟩
          obtain ⟨q3, q4⟩ := m_on q1 hjL
          refine ok_mono (m2 d _ (l ++ e) (by omega) (by rw [List.length_append]; omega) q3) ?_
          intro r g3 ⟨hr, q5, q6⟩
          refine ⟨hr, ?_⟩
          rw [List.length_append] at q5
          refine ok_mono (m_addStepF q5 (by omega) d _ _) ?_
          intro r g4 ⟨hr, q7, q8⟩
          exact ⟨hr, rfl, tmf_le q7 (by omega), fr_trans q2 (fr_trans q4 (fr_trans q6 q8))⟩
    · refine ⟨(j, some e), ⟨w2, w3, w4, w5⟩, ?_, ?_⟩
      · intro d g l dd hl h
        obtain ⟨d, rfl⟩ : ∃ e, d = e + 1 := ⟨d - 1, by omega⟩
        refine xc_start (by omega) (ok_mono (x1 d g l (by omega) hl h) ?_)
        intro r g2 ⟨hr, q1, q2⟩
        refine Or.inr ⟨hr, ?_⟩
        rw [xc_stop q1.1 q1.2.1 q1.2.2.1 (by omega) hT]
        exact ok_some ⟨rfl, q1, q2⟩
      · intro d g l dd hl h
        obtain ⟨d, rfl⟩ : ∃ e, d = e + 1 := ⟨d - 1, by omega⟩
        refine cm_start (ok_mono (m1 d g l (by omega) hl h) ?_)
        intro r g2 ⟨hr, q1, q2⟩
        refine ⟨hr, ?_⟩
        rw [cm_stop q1 hT]
        exact ok_some ⟨rfl, q1, q2⟩
  | (f, none), w1, x1, m1 =>
    refine ⟨(f, none), w1, ?_, ?_⟩
    · intro d g l dd hl h
      obtain ⟨d, rfl⟩ : ∃ e, d = e + 1 := ⟨d - 1, by omega⟩
      refine xc_start (by omega) (ok_mono (x1 d g l (by omega) hl h) ?_)
      intro r g2 ⟨hr, q1, q2⟩
      rcases hr with hr | ⟨hr, hdg⟩
      · exact Or.inl ⟨hr, Or.inl rfl, q1, q2⟩
      · refine Or.inr ⟨hr, ?_⟩
        rw [xc_stop q1.1 q1.2.1 q1.2.2.1 (by omega) (top_dg hdg)]
        exact ok_some ⟨Or.inr ⟨rfl, hdg⟩, q1, q2⟩
    · intro d g l dd hl h
      obtain ⟨d, rfl⟩ : ∃ e, d = e + 1 := ⟨d - 1, by omega⟩
      refine cm_start (ok_mono (m1 d g l (by omega) hl h) ?_)
      intro r g2 ⟨hr, q1, q2⟩
      refine ⟨hr, ?_⟩
      rw [cm_F q1]
      exact ok_some ⟨rfl, q1, q2⟩
theorem j_all {L : Nat} {b : Nat → Nat} : ∀ k o, o + k = 6 → ∀ i, i ≤ L → JO L b o i ∧ JC L b 0 o i := by
  have up : ∀ o, (∀ i, i ≤ L → JO L b o i) → ∀ i, i ≤ L → JC L b 0 o i := fun o h => jc_step (Or.inl rfl) (jc_step (Or.inr (Or.inl rfl)) (jc_cmp (jc_step (Or.inr (Or.inr (Or.inl rfl))) (jc_step (Or.inr (Or.inr (Or.inr rfl))) (fun i hi => jc_5 (h i hi))))))
  intro k
  induction k with
  | zero =>
    intro o ho
    have h := jo_all (L := L) (b := b) (o := o) (by omega) (fun z => absurd z (by omega))
    exact fun i hi => ⟨h i hi, up o h i hi⟩
  | succ k ih =>
    intro o ho
    have h := jo_all (L := L) (b := b) (o := o) (by omega) (fun _ => ih (o + 1) (by omega))
    exact fun i hi => ⟨h i hi, up o h i hi⟩
