/-! LAW (8): the text, read by both -/
def tfm : List TLn → List TS
  | [] => []
  | x :: ls => tls x ++ tfm ls
def tfx : List TLn → List TS
  | [] => []
  | x :: ls => tlx x ++ tfx ls
theorem tfm_ap {x : TLn} : ∀ ls : List TLn, tfm (ls ++ [x]) = tfm ls ++ tls x := by
  intro ls
  induction ls with
  | nil => exact List.append_nil _
  | cons y ls ih =>
    show tls y ++ tfm (ls ++ [x]) = (tls y ++ tfm ls) ++ tls x
    rw [ih, List.append_assoc]
theorem tfx_ap {x : TLn} : ∀ ls : List TLn, tfx (ls ++ [x]) = tfx ls ++ tlx x := by
  intro ls
  induction ls with
  | nil => exact List.append_nil _
  | cons y ls ih =>
    show tlx y ++ tfx (ls ++ [x]) = (tlx y ++ tfx ls) ++ tlx x
    rw [ih, List.append_assoc]
/-- lines written down at a place -/
def TLS (o75 : Nat) (ls : List TLn) (g : mG) : Prop := ∀ k x, ls[k]? = some x → g.1 75 (o75 + k) = nI ((tfm (ls.take k)).length + (tlt x).length) ∧ g.1 76 (o75 + k) = nI ((tfm (ls.take k)).length + (tls x).length)
theorem l_ap {l : List TLn} {s : TLn} {k : Nat} {x : TLn} (h : (l ++ [s])[k]? = some x) : (k < l.length ∧ l[k]? = some x) ∨ (k = l.length ∧ x = s) := by
  rcases Nat.lt_trichotomy k l.length with c | c | c
  · rw [List.getElem?_append_left c] at h
    exact Or.inl ⟨c, h⟩
  · subst c
    rw [List.getElem?_concat_length] at h
    exact Or.inr ⟨rfl, (Option.some.inj h).symm⟩
  · rw [List.getElem?_eq_none (by rw [List.length_append, List.length_singleton]; omega)] at h
    exact absurd h (by simp)
theorem l_len {l : List TLn} {s : TLn} : (l ++ [s]).length = l.length + 1 := by rw [List.length_append, List.length_singleton]
theorem l_tk {l : List TLn} {s : TLn} {k : Nat} (h : k ≤ l.length) : (l ++ [s]).take k = l.take k := List.take_append_of_le_length h
def TXT (L : Nat) (b : Nat → Nat) (g : mG) : Nat × Option (List TLn) → Option Value → mG → Prop
  | (j, some ls), r, g2 => r = some (.int 1) ∧ TXS L b j (tfx ls) g2 ∧ Fr sTP g g2
  | (f, none), r, g2 => r = some (.int 0) ∧ g2.1 16 3 = nI f ∧ Fr sTP g g2
def TMT (L : Nat) (b : Nat → Nat) (g : mG) : Nat × Option (List TLn) → mG → Prop
  | (j, some ls), g2 => TMS L b j 0 (tfm ls) g2 ∧ g2.1 74 1 = nI ls.length ∧ TLS 61 ls g2 ∧ Fr sTL g g2
  | (f, none), g2 => TMF L b f 122 g2 ∧ Fr sTL g g2
def TRT (L : Nat) : Nat × Option (List TLn) → Prop
  | (j, some ls) => (tfx ls).length ≤ 121 ∧ 0 < ls.length ∧ ls.length ≤ 61 ∧ (tfm ls).length ≤ 120 ∧ (∀ x, x ∈ ls → tlok x) ∧ j ≤ L
  | (f, none) => f ≤ L
theorem txt_fr {L : Nat} {b : Nat → Nat} {g0 g : mG} {R : Nat × Option (List TLn)} {r : Option Value} {g2 : mG} (F : Fr sTP g0 g) (h : TXT L b g R r g2) : TXT L b g0 R r g2 := by
  match R, h with
  | (j, some e), h => exact ⟨h.1, h.2.1, fr_trans F h.2.2⟩
  | (f, none), h => exact ⟨h.1, h.2.1, fr_trans F h.2.2⟩
theorem tmt_fr {L : Nat} {b : Nat → Nat} {g0 g : mG} {R : Nat × Option (List TLn)} {g2 : mG} (F : Fr sTL g0 g) (h : TMT L b g R g2) : TMT L b g0 R g2 := by
  match R, h with
  | (j, some e), h => exact ⟨h.1, h.2.1, h.2.2.1, fr_trans F h.2.2.2⟩
  | (f, none), h => exact ⟨h.1, fr_trans F h.2⟩
theorem j_text {L : Nat} {b : Nat → Nat} (hL : L ≤ 120) : ∀ m i (ls : List TLn), L < i + m → i ≤ L → (tfx ls).length ≤ i → (tfm ls).length ≤ i → 2 * ls.length ≤ i → (∀ x, x ∈ ls → tlok x) → ∃ R, TRT L R ∧ (∀ d g, 90 ≤ d → TXS L b i (tfx ls) g → Ok (ev none d mm_X8_readText 12 [.ref 16, .int (nI ls.length)] [] g) (TXT L b g R)) ∧ (∀ d g (Q : Option Value → mG → Prop), 90 ≤ d → TMS L b i 0 (tfm ls) g → g.1 74 1 = nI ls.length → TLS 61 ls g → (∀ g2, TMT L b g R g2 → Ok (ev none (d + 1) mm_X12_readText 86 [.ref 55, .int (nI 0), .null] [] g2) Q) → Ok (ev none d mm_X12_line 0 [.ref 55, .null] [] g) (fun r g2 => r = none ∧ Ok (ev none (d + 1) mm_X12_readText 31 [.ref 55, .int (nI 0), .null] [] g2) Q)) := by
  intro m
  induction m with
  | zero =>
    intro i ls h1 h2
    omega
  | succ m ih =>
    intro i ls hm hi hx hmm hn hok
    obtain ⟨R1, w1, x1, m1⟩ := j_line (L := L) (b := b) hi
    have c120 : ¬ 120 < nI ls.length := nI_nlt (b := ls.length) (a := 120) (by omega) (by omega)
    match R1, w1, x1, m1 with
    | (j, some x), w1, x1, m1 =>
      obtain ⟨w2, w3, w4, w5, w6⟩ := w1
      have ltx : (tfx (ls ++ [x])).length ≤ j + 1 := by rw [tfx_ap, List.length_append]; omega
      have ltm : (tfm (ls ++ [x])).length ≤ j := by rw [tfm_ap, List.length_append]; omega
      have hok2 : ∀ y, y ∈ ls ++ [x] → tlok y := fun y hy => by
        rcases List.mem_append.mp hy with hy | hy
        · exact hok y hy
        · rw [List.mem_singleton] at hy
          rw [hy]; exact w6
      have hls : ∀ g g2 : mG, TLS 61 ls g → LMQ L b g (tfm ls) ls.length (j, some x) none g2 → TMS L b j 0 (tfm (ls ++ [x])) g2 ∧ g2.1 74 1 = nI (ls ++ [x]).length ∧ TLS 61 (ls ++ [x]) g2 ∧ Fr sTL g g2 := by
        intro g g2 hT h
        obtain ⟨_, p1, p2, p3, p4, p5, p6⟩ := h
        refine ⟨by rw [tfm_ap]; exact p1, by rw [l_len]; exact p2, ?_, p6⟩
        intro k y hk
        rcases l_ap hk with ⟨c, e⟩ | ⟨c, e⟩
        · rw [l_tk (by omega), (p5 (61 + k) (by omega)).1, (p5 (61 + k) (by omega)).2]
          exact hT k y e
        · subst c
          subst e
          rw [l_tk (by omega), List.take_length]
          exact ⟨p3, p4⟩
      by_cases cL : j < L
      · by_cases c : tch L b j = 59
        · obtain ⟨R, r0, x2, m2⟩ := ih (j + 1) (ls ++ [x]) (by omega) (by omega) ltx (by omega) (by rw [l_len]; omega) hok2
          refine ⟨R, r0, ?_, ?_⟩
          · intro d g dd h
            obtain ⟨d, rfl⟩ : ∃ e, d = e + 1 := ⟨d - 1, by omega⟩
            rw [b_X8_readText_12, m_if_neg c120]
            refine ok_bnd (x1 d g _ (by omega) hx h) ?_
            intro r g2 ⟨hr, q1, q2⟩
            subst hr
            rw [mp_some, b_X8_readText_22, m_if_neg (by decide), q1.2.2.1, q1.1.2.1, m_if_pos (nI_lt cL (by omega)), v_letter q1.1 q1.2.1 q1.2.2.1, mb_some, mp_some, b_X8_readText_44, m_if_pos (show tlc L b j = 59 from (tlc_eq (c := 59) (ttp_b h.1 j) (by omega) (by omega)).mpr c), nI_1]
            obtain ⟨q3, q4⟩ := x_on q1 cL
            rw [← tfx_ap] at q3
            have := x2 (d + 1) _ dd q3
            rw [l_len] at this
            refine ok_mono this ?_
            intro r g3 q
            exact txt_fr (fr_trans q2 q4) q
          · intro d g Q dd h h74 hT hq
            refine ok_mono (m1 d g _ ls.length (by omega) hmm (by omega) h h74) ?_
            intro r g2 h2
            have hr : r = none := h2.1
            subst hr
            obtain ⟨p1, p2, p3, p4⟩ := hls g g2 hT h2
            refine ⟨rfl, ?_⟩
            rw [b_X12_readText_31, p1.2.2.2.1, m_if_pos tm1, v_look p1.1 p1.2.1 p1.2.2.1, mb_some, mp_some, b_X12_readText_42, m_if_pos (show tlm L b j = 59 from (tlm_eq (c := 59) (ttp_b h.1 j) (by omega) (by omega)).mpr c)]
            obtain ⟨q3, q4⟩ := m_on p1 cL
            have t3 : TLS 61 (ls ++ [x]) (m_s1 g2 55 24 (g2.1 55 24 + 1)) := fun k y hk => by
              rw [s1_ne (by omega), s1_ne (by omega)]; exact p3 k y hk
            refine ok_bnd (m2 d _ Q dd q3 (by rw [s1_ne (by omega)]; exact p2) t3 (fun g3 h3 => hq g3 (tmt_fr (fr_trans p4 (fr_PL q4)) h3))) ?_
            intro r g3 ⟨hr, q5⟩
            subst hr
            rw [mp_none, b_X12_readText_61]
            exact q5
        · refine ⟨(j, none), w3, ?_, ?_⟩
          · intro d g dd h
            obtain ⟨d, rfl⟩ : ∃ e, d = e + 1 := ⟨d - 1, by omega⟩
            rw [b_X8_readText_12, m_if_neg c120]
            refine ok_bnd (x1 d g _ (by omega) hx h) ?_
            intro r g2 ⟨hr, q1, q2⟩
            subst hr
            rw [mp_some, b_X8_readText_22, m_if_neg (by decide), q1.2.2.1, q1.1.2.1, m_if_pos (nI_lt cL (by omega)), v_letter q1.1 q1.2.1 q1.2.2.1, mb_some, mp_some, b_X8_readText_44, m_if_neg (show ¬ tlc L b j = 59 from fun z => c ((tlc_eq (c := 59) (ttp_b h.1 j) (by omega) (by omega)).mp z))]
            exact ok_some ⟨rfl, q1.2.2.1, q2⟩
          · intro d g Q dd h h74 hT hq
            refine ok_mono (m1 d g _ ls.length (by omega) hmm (by omega) h h74) ?_
            intro r g2 h2
            have hr : r = none := h2.1
            subst hr
            obtain ⟨p1, p2, p3, p4⟩ := hls g g2 hT h2
            refine ⟨rfl, ?_⟩
            rw [b_X12_readText_31, p1.2.2.2.1, m_if_pos tm1, v_look p1.1 p1.2.1 p1.2.2.1, mb_some, mp_some, b_X12_readText_42, m_if_neg (show ¬ tlm L b j = 59 from fun z => c ((tlm_eq (c := 59) (ttp_b h.1 j) (by omega) (by omega)).mp z)), b_X12_readText_64, p1.2.2.2.1, m_if_pos tm1, p1.2.2.1, p1.1.2.1, m_if_pos (nI_lt cL (by omega))]
            refine ok_bnd (m_wrong p1 d) ?_
            intro r g3 ⟨hr, q5, q6⟩
            subst hr
            rw [mp_none]
            exact hq g3 ⟨tmf_le q5 (by omega), fr_trans p4 (fr_PL q6)⟩
      · have eL : j = L := by omega
        have n59 : ¬ tch L b j = 59 := fun z => by
          have := tch_L (L := L) (b := b) (i := j) (by omega)
          omega
        refine ⟨(j, some (ls ++ [x])), ⟨by omega, by rw [l_len]; omega, by rw [l_len]; omega, by omega, hok2, w3⟩, ?_, ?_⟩
        · intro d g dd h
          obtain ⟨d, rfl⟩ : ∃ e, d = e + 1 := ⟨d - 1, by omega⟩
          rw [b_X8_readText_12, m_if_neg c120]
          refine ok_bnd (x1 d g _ (by omega) hx h) ?_
          intro r g2 ⟨hr, q1, q2⟩
          subst hr
          rw [mp_some, b_X8_readText_22, m_if_neg (by decide), q1.2.2.1, q1.1.2.1, m_if_neg (nI_nlt (by omega) (by omega))]
          rw [← tfx_ap] at q1
          exact ok_some ⟨rfl, q1, q2⟩
        · intro d g Q dd h h74 hT hq
          refine ok_mono (m1 d g _ ls.length (by omega) hmm (by omega) h h74) ?_
          intro r g2 h2
          have hr : r = none := h2.1
          subst hr
          obtain ⟨p1, p2, p3, p4⟩ := hls g g2 hT h2
          refine ⟨rfl, ?_⟩
          rw [b_X12_readText_31, p1.2.2.2.1, m_if_pos tm1, v_look p1.1 p1.2.1 p1.2.2.1, mb_some, mp_some, b_X12_readText_42, m_if_neg (show ¬ tlm L b j = 59 from fun z => n59 ((tlm_eq (c := 59) (ttp_b h.1 j) (by omega) (by omega)).mp z)), b_X12_readText_64, p1.2.2.2.1, m_if_pos tm1, p1.2.2.1, p1.1.2.1, m_if_neg (nI_nlt (by omega) (by omega))]
          exact hq g2 ⟨p1, p2, p3, p4⟩
    | (f, none), w1, x1, m1 =>
      obtain ⟨w2, w3⟩ := w1
      refine ⟨(f, none), w3, ?_, ?_⟩
      · intro d g dd h
        obtain ⟨d, rfl⟩ : ∃ e, d = e + 1 := ⟨d - 1, by omega⟩
        rw [b_X8_readText_12, m_if_neg c120]
        refine ok_bnd (x1 d g _ (by omega) hx h) ?_
        intro r g2 ⟨hr, q1, q2⟩
        rcases hr with hr | ⟨hr, hdg⟩
        · subst hr
          rw [mp_some, b_X8_readText_22, m_if_pos rfl]
          exact ok_some ⟨rfl, q1.2.2.1, q2⟩
        · subst hr
          have hf := tdg_L hdg
          rw [mp_some, b_X8_readText_22, m_if_neg (by decide), q1.2.2.1, q1.1.2.1, m_if_pos (nI_lt hf (by omega)), v_letter q1.1 q1.2.1 q1.2.2.1, mb_some, mp_some, b_X8_readText_44, m_if_neg (show ¬ tlc L b f = 59 from fun z => by
            have := (tlc_eq (c := 59) (ttp_b h.1 f) (by omega) (by omega)).mp z
            unfold tdg at hdg
            omega)]
          exact ok_some ⟨rfl, q1.2.2.1, q2⟩
      · intro d g Q dd h h74 hT hq
        refine ok_mono (m1 d g _ ls.length (by omega) hmm (by omega) h h74) ?_
        intro r g2 ⟨hr, q1, q2⟩
        refine ⟨hr, ?_⟩
        rw [b_X12_readText_31, q1.2.2.2.1, m_if_neg (nI_pos (n := f) (by omega)), b_X12_readText_64, q1.2.2.2.1, m_if_neg (nI_pos (n := f) (by omega))]
        exact hq g2 ⟨q1, q2⟩
