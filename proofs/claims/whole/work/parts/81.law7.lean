/-! LAW (7): a line, read by both -/
abbrev TLn := Option (List TS) × List TS
def tlt (x : TLn) : List TS := x.1.getD []
def tls (x : TLn) : List TS := tlt x ++ x.2
def tlq : Option (List TS) → List TS
  | some q => q ++ [(63, 0)]
  | none => []
def tlx (x : TLn) : List TS := tlq x.1 ++ (x.2 ++ [(59, 0)])
def tlok (x : TLn) : Prop := (∀ q, x.1 = some q → tok q) ∧ tok x.2
def s7 (c _k : Nat) : Bool := c == 74 || c == 75 || c == 76
/-- what reading a line may change -/
def sTL (c k : Nat) : Bool := sTP c k || ((c == 74 && k == 1) || ((c == 75 || c == 76) && 61 ≤ k))
theorem fr_PL {g g2 : mG} (h : Fr sTP g g2) : Fr sTL g g2 := fr_mono h (fun c k e => by
  unfold sTL at e
  exact (Bool.or_eq_false_iff.mp e).1)
theorem sTL75 (k : Nat) : sTL 75 (61 + k) = true ∧ sTL 76 (61 + k) = true := by
  constructor <;> simp [sTL]
theorem s7_P {g g2 : mG} (h : Fr s7 g g2) {c k L : Nat} {b : Nat → Nat} (h1 : TTP c k L b g) (hc : s7 c k = false := by rfl) : TTP c k L b g2 := by
  obtain ⟨h1, h2, h4⟩ := h1
  exact ⟨h1, (h.1 c k hc).trans h2, fun i hi => ⟨(h4 i hi).1, (h.1 17 i rfl).trans (h4 i hi).2.1, (h.1 71 i rfl).trans (h4 i hi).2.2⟩⟩
theorem s7_M {g g2 : mG} (h : Fr s7 g g2) {L : Nat} {b : Nat → Nat} {i o : Nat} {l : List TS} (h1 : TMS L b i o l g) : TMS L b i o l g2 := by
  obtain ⟨h1, h2, h3, h4, h5, h6, h7⟩ := h1
  exact ⟨s7_P h h1, h2, (h.1 55 24 rfl).trans h3, (h.1 55 25 rfl).trans h4, (h.1 55 26 rfl).trans h5, (h.1 55 27 rfl).trans h6, fun k x hk => ⟨(h.1 72 _ rfl).trans (h7 k x hk).1, (h.1 73 _ rfl).trans (h7 k x hk).2⟩⟩
theorem s7_F {g g2 : mG} (h : Fr s7 g g2) {L : Nat} {b : Nat → Nat} {f n : Nat} (h1 : TMF L b f n g) : TMF L b f n g2 := by
  obtain ⟨h1, h2, h3, h4, m, h5, h6⟩ := h1
  exact ⟨s7_P h h1, h2, (h.1 55 24 rfl).trans h3, (h.1 55 25 rfl).trans h4, m, h5, (h.1 55 27 rfl).trans h6⟩
theorem t16 : ∀ x, x < 200 → (nI x).toInt16.toInt32 = nI x := by decide +kernel
def LRW (L i : Nat) : Nat × Option TLn → Prop
  | (j, some x) => i < j ∧ j ≤ L ∧ i + (tlx x).length ≤ j + 1 ∧ i + (tls x).length ≤ j ∧ tlok x
  | (f, none) => i ≤ f ∧ f ≤ L
def LXQ (L : Nat) (b : Nat → Nat) (g : mG) (l : List TS) : Nat × Option TLn → Option Value → mG → Prop
  | (j, some x), r, g2 => r = some (.int 1) ∧ TXS L b j (l ++ tlx x) g2 ∧ Fr sTP g g2
  | (f, none), r, g2 => (r = some (.int 0) ∨ (r = some (.int 1) ∧ tdg (tch L b f))) ∧ TXF L b f g2 ∧ Fr sTP g g2
def LMQ (L : Nat) (b : Nat → Nat) (g : mG) (l : List TS) (n : Nat) : Nat × Option TLn → Option Value → mG → Prop
  | (j, some x), r, g2 => r = none ∧ TMS L b j 0 (l ++ tls x) g2 ∧ g2.1 74 1 = nI (n + 1) ∧ g2.1 75 (61 + n) = nI (l.length + (tlt x).length) ∧ g2.1 76 (61 + n) = nI (l.length + (tls x).length) ∧ (∀ k, k ≠ 61 + n → g2.1 75 k = g.1 75 k ∧ g2.1 76 k = g.1 76 k) ∧ Fr sTL g g2
  | (f, none), r, g2 => r = none ∧ TMF L b f 122 g2 ∧ Fr sTL g g2
def JL (L : Nat) (b : Nat → Nat) (i : Nat) : Prop := ∃ R, LRW L i R ∧ (∀ d g l, 80 ≤ d → l.length ≤ i → TXS L b i l g → Ok (ev none d mm_X8_readLine 0 [.ref 16] [] g) (LXQ L b g l R)) ∧ (∀ d g l n, 80 ≤ d → l.length ≤ i → n ≤ 60 → TMS L b i 0 l g → g.1 74 1 = nI n → Ok (ev none d mm_X12_line 0 [.ref 55, .null] [] g) (LMQ L b g l n R))
theorem xl_47 {L : Nat} {b : Nat → Nat} {j : Nat} {l : List TS} {g : mG} (h : TXS L b j l g) (hl : l.length < 128) (d : Nat) : Ok (ev none (d + 1) mm_X8_readLine 47 [.ref 16] [] g) (fun r g2 => r = some (.int 1) ∧ TXS L b j (l ++ [(59, 0)]) g2 ∧ Fr sTP g g2) := by
  rw [b_X8_readLine_47]
  refine ok_bnd (x_write h hl d (59, 0) _ (by decide)) ?_
  intro r g2 ⟨hr, q1, q2⟩
  subst hr
  rw [mp_none, b_X8_readLine_53]
  exact ok_some ⟨rfl, q1, q2⟩
theorem xl_47F {L : Nat} {b : Nat → Nat} {f : Nat} {g : mG} (h : TXF L b f g) (d : Nat) : Ok (ev none (d + 1) mm_X8_readLine 47 [.ref 16] [] g) (fun r g2 => r = some (.int 1) ∧ TXF L b f g2 ∧ Fr sTP g g2) := by
  rw [b_X8_readLine_47]
  refine ok_bnd (x_writeF h d _) ?_
  intro r g2 ⟨hr, q1, q2⟩
  subst hr
  rw [mp_none, b_X8_readLine_53]
  exact ok_some ⟨rfl, q1, q2⟩
/-- the model's line begins -/
theorem ml_0 {L : Nat} {b : Nat → Nat} {i : Nat} {l : List TS} {g : mG} (h : TMS L b i 0 l g) (hl : l.length < 200) {n : Nat} (hn : n ≤ 60) (h74 : g.1 74 1 = nI n) (d : Nat) : ev none (d + 1) mm_X12_line 0 [.ref 55, .null] [] g = m_bnd (EM 0 d (m_s1 g 75 (61 + n) (nI l.length))) (fun r g2 => ev none (d + 1) mm_X12_line 25 [.ref 55, .int (nI (61 + n))] (m_psh r []) g2) := by
  rw [b_X12_line_0, show m_in (1 : Int32) 2 = m_in (nI 1) 2 from rfl, mi_nI (by omega) (by omega), show Int32.toNatClampNeg 1 = 1 from rfl, h74, show (61 : Int32) + nI n = nI (61 + n) from nI_add 61 n, mi_nI (by omega) (by omega), pk_cl (61 + n) (hx := rfl), h.2.2.2.2.2.1, pk_vs, t16 _ hl]
  rfl
/-- and ends -/
theorem ml_66 {g : mG} {m n : Nat} (h27 : g.1 55 27 = nI m) (hm : m < 200) (hn : n ≤ 60) (h74 : g.1 74 1 = nI n) (d : Nat) : ev none (d + 1) mm_X12_line 66 [.ref 55, .int (nI (61 + n))] [] g = some (none, m_s1 (m_s1 g 76 (61 + n) (nI m)) 74 1 (nI (n + 1))) := by
  rw [b_X12_line_66, mi_nI (by omega) (by omega), show m_in (1 : Int32) 2 = m_in (nI 1) 2 from rfl, mi_nI (by omega) (by omega), show m_in (nI 1) 2 = m_in (nI 1) 2 from rfl, mi_nI (by omega) (by omega), show Int32.toNatClampNeg 1 = 1 from rfl, pk_cl (61 + n) (hx := rfl), h27, pk_vs, t16 _ hm, h74, nI_1]
theorem ml_66F {L : Nat} {b : Nat → Nat} {f m n : Nat} {g0 g : mG} (h : TMF L b f m g) (hm : m ≤ 122) (hn : n ≤ 60) (h74 : g.1 74 1 = nI n) (F : Fr sTL g0 g) (d : Nat) : Ok (ev none (d + 1) mm_X12_line 66 [.ref 55, .int (nI (61 + n))] [] g) (fun r g2 => r = none ∧ TMF L b f 122 g2 ∧ Fr sTL g0 g2) := by
  obtain ⟨k, k1, k2⟩ := h.2.2.2.2
  rw [ml_66 k2 (by omega) hn h74]
  refine ok_some ⟨rfl, s7_F (fr_s1 (fr_s1 fr_refl rfl) rfl) (tmf_le h hm), fr_s1 (fr_s1 F (sTL75 n).2) rfl⟩
theorem ml_66G {L : Nat} {b : Nat → Nat} {j : Nat} {l : List TS} {g : mG} (h : TMS L b j 0 l g) (hl : l.length < 200) {n : Nat} (hn : n ≤ 60) (h74 : g.1 74 1 = nI n) (d : Nat) : Ok (ev none (d + 1) mm_X12_line 66 [.ref 55, .int (nI (61 + n))] [] g) (fun r g2 => r = none ∧ TMS L b j 0 l g2 ∧ g2.1 74 1 = nI (n + 1) ∧ g2.1 75 (61 + n) = g.1 75 (61 + n) ∧ g2.1 76 (61 + n) = nI l.length ∧ (∀ k, k ≠ 61 + n → g2.1 75 k = g.1 75 k ∧ g2.1 76 k = g.1 76 k) ∧ Fr sTL g g2) := by
  rw [ml_66 h.2.2.2.2.2.1 hl hn h74]
  refine ok_some ⟨rfl, s7_M (fr_s1 (fr_s1 fr_refl rfl) rfl) h, s1_at, by rw [s1_ne (by omega), s1_ne (by omega)], by rw [s1_ne (by omega), s1_at], fun k hk => ⟨by rw [s1_ne (by omega), s1_ne (by omega)], by rw [s1_ne (by omega), s1_same hk]⟩, fr_s1 (fr_s1 fr_refl (sTL75 n).2) rfl⟩
theorem j_line {L : Nat} {b : Nat → Nat} {i : Nat} (hi : i ≤ L) : JL L b i := by
  obtain ⟨R1, w1, x1, m1⟩ := (j_all (L := L) (b := b) 6 0 rfl i hi).2
  have l75 : ∀ g2 g3 : mG, Fr sTP g2 g3 → (∀ k, g3.1 75 k = g2.1 75 k ∧ g3.1 76 k = g2.1 76 k) ∧ g3.1 74 1 = g2.1 74 1 := fun g2 g3 F => ⟨fun k => ⟨F.1 75 k rfl, F.1 76 k rfl⟩, F.1 74 1 rfl⟩
  match R1, w1, x1, m1 with
  | (j, some e), w1, x1, m1 =>
    obtain ⟨w2, w3, w4, w5⟩ := w1
    by_cases c : tch L b j = 63
    · have hj : j < L := tch_L (L := L) (b := b) (by omega)
      obtain ⟨R2, y1, x2, m2⟩ := (j_all (L := L) (b := b) 6 0 rfl (j + 1) (by omega)).2
      match R2, y1, x2, m2 with
      | (j2, some e2), y1, x2, m2 =>
        obtain ⟨y2, y3, y4, y5⟩ := y1
        have n1 : (tlx (some e, e2)).length = e.length + 1 + (e2.length + 1) := by
          show ((e ++ [(63, 0)]) ++ (e2 ++ [(59, 0)])).length = _
          rw [List.length_append, t_len, t_len]
        have n2 : (tls (some e, e2)).length = e.length + e2.length := List.length_append
        refine ⟨(j2, some (some e, e2)), ⟨by omega, y3, by rw [n1]; omega, by rw [n2]; omega, ⟨fun q hq => by rw [← Option.some.inj hq]; exact w5, y5⟩⟩, ?_, ?_⟩
        · intro d g l dd hl h
          obtain ⟨d, rfl⟩ : ∃ e, d = e + 1 := ⟨d - 1, by omega⟩
          have h120 := h.1.1
          rw [b_X8_readLine_0]
          refine ok_bnd (x1 d g l (by omega) hl h) ?_
          intro r g2 ⟨hr, q1, q2⟩
          subst hr
          rw [mp_some, b_X8_readLine_6, m_if_neg (by decide), v_letter q1.1 q1.2.1 q1.2.2.1, mb_some, mp_some, b_X8_readLine_15, m_if_pos (show tlc L b j = 63 from (tlc_eq (c := 63) (ttp_b h.1 j) (by omega) (by omega)).mpr c)]
          obtain ⟨q3, q4⟩ := x_on q1 hj
          refine ok_bnd (x_write q3 (by rw [List.length_append]; omega) d (63, 0) _ (by decide)) ?_
          intro r g3 ⟨hr, q5, q6⟩
          subst hr
          rw [mp_none, b_X8_readLine_36]
          refine ok_bnd (x2 d g3 _ (by omega) (by rw [t_len, List.length_append]; omega) q5) ?_
          intro r g4 ⟨hr, q7, q8⟩
          subst hr
          rw [mp_some, b_X8_readLine_42, m_if_neg (by decide)]
          refine ok_mono (xl_47 q7 (by rw [List.length_append, t_len, List.length_append]; omega) d) ?_
          intro r g5 ⟨hr, q9, q10⟩
          refine ⟨hr, ?_, fr_trans q2 (fr_trans q4 (fr_trans q6 (fr_trans q8 q10)))⟩
          have ea : l ++ tlx (some e, e2) = (((l ++ e) ++ [(63, 0)]) ++ e2) ++ [(59, 0)] := by
            show l ++ ((e ++ [(63, 0)]) ++ (e2 ++ [(59, 0)])) = _
            simp only [List.append_assoc]
          rw [ea]
          exact q9
        · intro d g l n dd hl hn h h74
          obtain ⟨d, rfl⟩ : ∃ e, d = e + 1 := ⟨d - 1, by omega⟩
          have h120 := h.1.1
          rw [ml_0 h (by omega) hn h74]
          refine ok_bnd (m1 d _ l (by omega) hl (s7_M (fr_s1 fr_refl rfl) h)) ?_
          intro r g2 ⟨hr, q1, q2⟩
          subst hr
          obtain ⟨z1, z2⟩ := l75 _ _ q2
          rw [mp_none, b_X12_line_25, q1.2.2.2.1, m_if_pos tm1, v_look q1.1 q1.2.1 q1.2.2.1, mb_some, mp_some, b_X12_line_36, m_if_pos (show tlm L b j = 63 from (tlm_eq (c := 63) (ttp_b h.1 j) (by omega) (by omega)).mpr c), mi_nI (by omega) (by omega), pk_cl (61 + n) (hx := rfl)]
          obtain ⟨q3, q4⟩ := m_on q1 hj
          have hl2 : (l ++ e).length < 200 := by rw [List.length_append]; omega
          rw [q1.2.2.2.2.2.1, pk_vs, t16 _ hl2]
          refine ok_bnd (m2 d _ (l ++ e) (by omega) (by rw [List.length_append]; omega) (s7_M (fr_s1 fr_refl rfl) q3)) ?_
          intro r g3 ⟨hr, q5, q6⟩
          subst hr
          obtain ⟨z3, z4⟩ := l75 _ _ q6
          rw [mp_none]
          have h74' : g3.1 74 1 = nI n := by rw [z4, s1_ne (by omega), s1_ne (by omega), z2, s1_ne (by omega)]; exact h74
          refine ok_mono (ml_66G q5 (by rw [List.length_append, List.length_append]; omega) hn h74' d) ?_
          intro r g4 ⟨hr, p1, p2, p3, p4, p5, p6⟩
          refine ⟨hr, ?_, p2, ?_, ?_, fun k hk => ⟨?_, ?_⟩, ?_⟩
          · show TMS L b j2 0 (l ++ (e ++ e2)) g4
            rw [← List.append_assoc]; exact p1
          · rw [p3, (z3 _).1, s1_at, List.length_append]; rfl
          · rw [p4, n2, List.length_append, List.length_append, Nat.add_assoc]
          · rw [(p5 k hk).1, (z3 k).1, s1_same hk, s1_ne (by omega), (z1 k).1, s1_same hk]
          · rw [(p5 k hk).2, (z3 k).2, s1_ne (by omega), s1_ne (by omega), (z1 k).2, s1_ne (by omega)]
          · exact fr_trans (fr_s1 fr_refl (sTL75 n).1) (fr_trans (fr_PL q2) (fr_trans (fr_PL q4) (fr_trans (fr_s1 fr_refl (sTL75 n).1) (fr_trans (fr_PL q6) p6))))
      | (f, none), y1, x2, m2 =>
        obtain ⟨y2, y3⟩ := y1
        refine ⟨(f, none), ⟨by omega, y3⟩, ?_, ?_⟩
        · intro d g l dd hl h
          obtain ⟨d, rfl⟩ : ∃ e, d = e + 1 := ⟨d - 1, by omega⟩
          have h120 := h.1.1
          rw [b_X8_readLine_0]
          refine ok_bnd (x1 d g l (by omega) hl h) ?_
          intro r g2 ⟨hr, q1, q2⟩
          subst hr
          rw [mp_some, b_X8_readLine_6, m_if_neg (by decide), v_letter q1.1 q1.2.1 q1.2.2.1, mb_some, mp_some, b_X8_readLine_15, m_if_pos (show tlc L b j = 63 from (tlc_eq (c := 63) (ttp_b h.1 j) (by omega) (by omega)).mpr c)]
          obtain ⟨q3, q4⟩ := x_on q1 hj
          refine ok_bnd (x_write q3 (by rw [List.length_append]; omega) d (63, 0) _ (by decide)) ?_
          intro r g3 ⟨hr, q5, q6⟩
          subst hr
          rw [mp_none, b_X8_readLine_36]
          refine ok_bnd (x2 d g3 _ (by omega) (by rw [t_len, List.length_append]; omega) q5) ?_
          intro r g4 ⟨hr, q7, q8⟩
          rcases hr with hr | ⟨hr, hdg⟩
          · subst hr
            rw [mp_some, b_X8_readLine_42, m_if_pos rfl]
            exact ok_some ⟨Or.inl rfl, q7, fr_trans q2 (fr_trans q4 (fr_trans q6 q8))⟩
          · subst hr
            rw [mp_some, b_X8_readLine_42, m_if_neg (by decide)]
            refine ok_mono (xl_47F q7 d) ?_
            intro r g5 ⟨hr, q9, q10⟩
            exact ⟨Or.inr ⟨hr, hdg⟩, q9, fr_trans q2 (fr_trans q4 (fr_trans q6 (fr_trans q8 q10)))⟩
        · intro d g l n dd hl hn h h74
          obtain ⟨d, rfl⟩ : ∃ e, d = e + 1 := ⟨d - 1, by omega⟩
          have h120 := h.1.1
          rw [ml_0 h (by omega) hn h74]
          refine ok_bnd (m1 d _ l (by omega) hl (s7_M (fr_s1 fr_refl rfl) h)) ?_
          intro r g2 ⟨hr, q1, q2⟩
          subst hr
          obtain ⟨z1, z2⟩ := l75 _ _ q2
          rw [mp_none, b_X12_line_25, q1.2.2.2.1, m_if_pos tm1, v_look q1.1 q1.2.1 q1.2.2.1, mb_some, mp_some, b_X12_line_36, m_if_pos (show tlm L b j = 63 from (tlm_eq (c := 63) (ttp_b h.1 j) (by omega) (by omega)).mpr c), mi_nI (by omega) (by omega), pk_cl (61 + n) (hx := rfl)]
          obtain ⟨q3, q4⟩ := m_on q1 hj
          have hl2 : (l ++ e).length < 200 := by rw [List.length_append]; omega
          rw [q1.2.2.2.2.2.1, pk_vs, t16 _ hl2]
          refine ok_bnd (m2 d _ (l ++ e) (by omega) (by rw [List.length_append]; omega) (s7_M (fr_s1 fr_refl rfl) q3)) ?_
          intro r g3 ⟨hr, q5, q6⟩
          subst hr
          obtain ⟨z3, z4⟩ := l75 _ _ q6
          rw [mp_none]
          have h74' : g3.1 74 1 = nI n := by rw [z4, s1_ne (by omega), s1_ne (by omega), z2, s1_ne (by omega)]; exact h74
          rw [List.length_append] at q5
          exact ml_66F q5 (by omega) hn h74' (fr_trans (fr_s1 fr_refl (sTL75 n).1) (fr_trans (fr_PL q2) (fr_trans (fr_PL q4) (fr_trans (fr_s1 fr_refl (sTL75 n).1) (fr_PL q6))))) d
    · have n1 : (tlx (none, e)).length = e.length + 1 := by
        show ([] ++ (e ++ [(59, 0)])).length = _
        rw [List.nil_append, t_len]
      have n2 : (tls (none, e)).length = e.length := rfl
      refine ⟨(j, some (none, e)), ⟨w2, w3, by rw [n1]; omega, by rw [n2]; omega, ⟨fun q hq => (nomatch hq), w5⟩⟩, ?_, ?_⟩
      · intro d g l dd hl h
        obtain ⟨d, rfl⟩ : ∃ e, d = e + 1 := ⟨d - 1, by omega⟩
        have h120 := h.1.1
        rw [b_X8_readLine_0]
        refine ok_bnd (x1 d g l (by omega) hl h) ?_
        intro r g2 ⟨hr, q1, q2⟩
        subst hr
        rw [mp_some, b_X8_readLine_6, m_if_neg (by decide), v_letter q1.1 q1.2.1 q1.2.2.1, mb_some, mp_some, b_X8_readLine_15, m_if_neg (show ¬ tlc L b j = 63 from fun z => c ((tlc_eq (c := 63) (ttp_b h.1 j) (by omega) (by omega)).mp z))]
        refine ok_mono (xl_47 q1 (by rw [List.length_append]; omega) d) ?_
        intro r g5 ⟨hr, q9, q10⟩
        refine ⟨hr, ?_, fr_trans q2 q10⟩
        have ea : l ++ tlx (none, e) = (l ++ e) ++ [(59, 0)] := t_as
        rw [ea]
        exact q9
      · intro d g l n dd hl hn h h74
        obtain ⟨d, rfl⟩ : ∃ e, d = e + 1 := ⟨d - 1, by omega⟩
        have h120 := h.1.1
        rw [ml_0 h (by omega) hn h74]
        refine ok_bnd (m1 d _ l (by omega) hl (s7_M (fr_s1 fr_refl rfl) h)) ?_
        intro r g2 ⟨hr, q1, q2⟩
        subst hr
        obtain ⟨z1, z2⟩ := l75 _ _ q2
        rw [mp_none, b_X12_line_25, q1.2.2.2.1, m_if_pos tm1, v_look q1.1 q1.2.1 q1.2.2.1, mb_some, mp_some, b_X12_line_36, m_if_neg (show ¬ tlm L b j = 63 from fun z => c ((tlm_eq (c := 63) (ttp_b h.1 j) (by omega) (by omega)).mp z))]
        have h74' : g2.1 74 1 = nI n := by rw [z2, s1_ne (by omega)]; exact h74
        refine ok_mono (ml_66G q1 (by rw [List.length_append]; omega) hn h74' d) ?_
        intro r g4 ⟨hr, p1, p2, p3, p4, p5, p6⟩
        refine ⟨hr, p1, p2, ?_, ?_, fun k hk => ⟨?_, ?_⟩, ?_⟩
        · rw [p3, (z1 _).1, s1_at]; rfl
        · rw [p4, n2, List.length_append]
        · rw [(p5 k hk).1, (z1 k).1, s1_same hk]
        · rw [(p5 k hk).2, (z1 k).2, s1_ne (by omega)]
        · exact fr_trans (fr_s1 fr_refl (sTL75 n).1) (fr_trans (fr_PL q2) p6)
  | (f, none), w1, x1, m1 =>
    obtain ⟨w2, w3⟩ := w1
    refine ⟨(f, none), ⟨w2, w3⟩, ?_, ?_⟩
    · intro d g l dd hl h
      obtain ⟨d, rfl⟩ : ∃ e, d = e + 1 := ⟨d - 1, by omega⟩
      rw [b_X8_readLine_0]
      refine ok_bnd (x1 d g l (by omega) hl h) ?_
      intro r g2 ⟨hr, q1, q2⟩
      rcases hr with hr | ⟨hr, hdg⟩
      · subst hr
        rw [mp_some, b_X8_readLine_6, m_if_pos rfl]
        exact ok_some ⟨Or.inl rfl, q1, q2⟩
      · subst hr
        rw [mp_some, b_X8_readLine_6, m_if_neg (by decide), v_letter q1.1 q1.2.1 q1.2.2.1, mb_some, mp_some, b_X8_readLine_15, m_if_neg (show ¬ tlc L b f = 63 from fun z => by
          have := (tlc_eq (c := 63) (ttp_b h.1 f) (by omega) (by omega)).mp z
          unfold tdg at hdg
          omega)]
        refine ok_mono (xl_47F q1 d) ?_
        intro r g5 ⟨hr, q9, q10⟩
        exact ⟨Or.inr ⟨hr, hdg⟩, q9, fr_trans q2 q10⟩
    · intro d g l n dd hl hn h h74
      obtain ⟨d, rfl⟩ : ∃ e, d = e + 1 := ⟨d - 1, by omega⟩
      have h120 := h.1.1
      rw [ml_0 h (by omega) hn h74]
      refine ok_bnd (m1 d _ l (by omega) hl (s7_M (fr_s1 fr_refl rfl) h)) ?_
      intro r g2 ⟨hr, q1, q2⟩
      subst hr
      obtain ⟨z1, z2⟩ := l75 _ _ q2
      rw [mp_none, b_X12_line_25, q1.2.2.2.1, m_if_neg (nI_pos (n := f) (by omega))]
      have h74' : g2.1 74 1 = nI n := by rw [z2, s1_ne (by omega)]; exact h74
      exact ml_66F q1 (by omega) hn h74' (fr_trans (fr_s1 fr_refl (sTL75 n).1) (fr_PL q2)) d
