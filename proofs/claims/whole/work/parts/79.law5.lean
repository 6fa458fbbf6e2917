/-! LAW (5): chains, read by both -/
def top (lv c : Nat) : Prop := (lv = 0 ∧ c = 124) ∨ (lv = 1 ∧ c = 38) ∨ (lv = 2 ∧ (c = 60 ∨ c = 61 ∨ c = 62)) ∨ (lv = 3 ∧ (c = 43 ∨ c = 45)) ∨ (lv = 4 ∧ (c = 42 ∨ c = 47 ∨ c = 37))
theorem top_bo {lv c : Nat} (h : top lv c) : tbo c := by
  unfold top at h
  unfold tbo
  omega
theorem tbo_n {c : Nat} (h : tbo c) : 4 < c ∧ c < 128 := by
  unfold tbo at h
  omega
theorem tcc_bo {c : Nat} (h : tbo c) : tcc (c, 0) = -nI c := by
  have := tbo_n h
  unfold tcc
  rw [if_neg (show ¬ c = 1 by omega), if_neg (show ¬ c = 2 by omega), if_neg (show ¬ c = 3 by omega), if_neg (show ¬ c = 4 by omega)]
theorem tneg : ∀ c, c < 128 → 0 < c → ¬ (-nI c = 0) := by decide +kernel
theorem top_dg {lv c : Nat} (h : tdg c) : ¬ top lv c := by
  unfold tdg at h
  unfold top
  omega
theorem v_op_y {L : Nat} {b : Nat → Nat} {i lv : Nat} (hb : i < L → b i < 256) (hT : top lv (tch L b i)) (d : Nat) (g : mG) : ev none d mm_X8_operatorOf 0 [.int (nI lv), .int (tlc L b i), .null] [] g = some (some (.int (-nI (tch L b i))), g) := by
  have n := tbo_n (top_bo hT)
  have e := (tlc_eq (i := i) (c := tch L b i) hb (by omega) n.2).mpr rfl
  rw [e]
  generalize tch L b i = c at hT
  rcases hT with ⟨rfl, rfl⟩ | ⟨rfl, rfl⟩ | ⟨rfl, rfl | rfl | rfl⟩ | ⟨rfl, rfl | rfl⟩ | ⟨rfl, rfl | rfl | rfl⟩
  · rw [b_X8_operatorOf_0, m_if_pos (by decide), m_if_pos (by decide), b_X8_operatorOf_43, b_X8_operatorOf_134, m_if_neg (by decide)]
  · rw [b_X8_operatorOf_0, m_if_neg (by decide), m_if_pos (by decide), m_if_pos (by decide), b_X8_operatorOf_58, b_X8_operatorOf_134, m_if_neg (by decide)]
  · rw [b_X8_operatorOf_0, m_if_neg (by decide), m_if_neg (by decide), m_if_pos (by decide), m_if_pos (by decide), b_X8_operatorOf_80, b_X8_operatorOf_85, b_X8_operatorOf_134, m_if_neg (by decide)]
  · rw [b_X8_operatorOf_0, m_if_neg (by decide), m_if_neg (by decide), m_if_pos (by decide), m_if_neg (by decide), m_if_pos (by decide), b_X8_operatorOf_80, b_X8_operatorOf_85, b_X8_operatorOf_134, m_if_neg (by decide)]
  · rw [b_X8_operatorOf_0, m_if_neg (by decide), m_if_neg (by decide), m_if_pos (by decide), m_if_neg (by decide), m_if_neg (by decide), m_if_pos (by decide), b_X8_operatorOf_80, b_X8_operatorOf_85, b_X8_operatorOf_134, m_if_neg (by decide)]
  · rw [b_X8_operatorOf_0, m_if_neg (by decide), m_if_neg (by decide), m_if_neg (by decide), m_if_pos (by decide), m_if_pos (by decide), b_X8_operatorOf_101, b_X8_operatorOf_106, b_X8_operatorOf_134, m_if_neg (by decide)]
  · rw [b_X8_operatorOf_0, m_if_neg (by decide), m_if_neg (by decide), m_if_neg (by decide), m_if_pos (by decide), m_if_neg (by decide), m_if_pos (by decide), b_X8_operatorOf_101, b_X8_operatorOf_106, b_X8_operatorOf_134, m_if_neg (by decide)]
  · rw [b_X8_operatorOf_0, m_if_neg (by decide), m_if_neg (by decide), m_if_neg (by decide), m_if_neg (by decide), m_if_pos (by decide), b_X8_operatorOf_128, b_X8_operatorOf_133, b_X8_operatorOf_134, m_if_neg (by decide)]
  · rw [b_X8_operatorOf_0, m_if_neg (by decide), m_if_neg (by decide), m_if_neg (by decide), m_if_neg (by decide), m_if_neg (by decide), m_if_pos (by decide), b_X8_operatorOf_128, b_X8_operatorOf_133, b_X8_operatorOf_134, m_if_neg (by decide)]
  · rw [b_X8_operatorOf_0, m_if_neg (by decide), m_if_neg (by decide), m_if_neg (by decide), m_if_neg (by decide), m_if_neg (by decide), m_if_neg (by decide), m_if_pos (by decide), b_X8_operatorOf_128, b_X8_operatorOf_133, b_X8_operatorOf_134, m_if_neg (by decide)]
theorem v_op_n {L : Nat} {b : Nat → Nat} {i lv : Nat} (hb : i < L → b i < 256) (hl : lv < 5) (hT : ¬ top lv (tch L b i)) (d : Nat) (g : mG) : ev none d mm_X8_operatorOf 0 [.int (nI lv), .int (tlc L b i), .null] [] g = some (some (.int 0), g) := by
  have no : ∀ c, 0 < c → c < 128 → top lv c → ¬ tlc L b i = nI c := fun c h0 hc h e => hT (by rw [(tlc_eq hb h0 hc).mp e]; exact h)
  have h5 : lv = 0 ∨ lv = 1 ∨ lv = 2 ∨ lv = 3 ∨ lv = 4 := by omega
  unfold top at no
  rcases h5 with rfl | rfl | rfl | rfl | rfl
  · rw [b_X8_operatorOf_0, m_if_pos (by decide), m_if_neg (show ¬ tlc L b i = 124 from no 124 (by omega) (by omega) (by omega)), b_X8_operatorOf_43, b_X8_operatorOf_134, m_if_pos rfl]
  · rw [b_X8_operatorOf_0, m_if_neg (by decide), m_if_pos (by decide), m_if_neg (show ¬ tlc L b i = 38 from no 38 (by omega) (by omega) (by omega)), b_X8_operatorOf_58, b_X8_operatorOf_134, m_if_pos rfl]
  · rw [b_X8_operatorOf_0, m_if_neg (by decide), m_if_neg (by decide), m_if_pos (by decide), m_if_neg (show ¬ tlc L b i = 60 from no 60 (by omega) (by omega) (by omega)), m_if_neg (show ¬ tlc L b i = 61 from no 61 (by omega) (by omega) (by omega)), m_if_neg (show ¬ tlc L b i = 62 from no 62 (by omega) (by omega) (by omega)), b_X8_operatorOf_85, b_X8_operatorOf_134, m_if_pos rfl]
  · rw [b_X8_operatorOf_0, m_if_neg (by decide), m_if_neg (by decide), m_if_neg (by decide), m_if_pos (by decide), m_if_neg (show ¬ tlc L b i = 43 from no 43 (by omega) (by omega) (by omega)), m_if_neg (show ¬ tlc L b i = 45 from no 45 (by omega) (by omega) (by omega)), b_X8_operatorOf_106, b_X8_operatorOf_134, m_if_pos rfl]
  · rw [b_X8_operatorOf_0, m_if_neg (by decide), m_if_neg (by decide), m_if_neg (by decide), m_if_neg (by decide), m_if_neg (show ¬ tlc L b i = 42 from no 42 (by omega) (by omega) (by omega)), m_if_neg (show ¬ tlc L b i = 47 from no 47 (by omega) (by omega) (by omega)), m_if_neg (show ¬ tlc L b i = 37 from no 37 (by omega) (by omega) (by omega)), b_X8_operatorOf_133, b_X8_operatorOf_134, m_if_pos rfl]
theorem xc_stop {L : Nat} {b : Nat → Nat} {j lv : Nat} {g : mG} (h1 : TTP 16 2 L b g) (h2 : j ≤ L) (h3 : g.1 16 3 = nI j) (hl : lv < 5) (hT : ¬ top lv (tch L b j)) (d : Nat) (x2 x3 x4 : Int32) (v5 : Value) : ev none (d + 1) mm_X8_readChain 39 [.ref 16, .int (nI lv), .int x2, .int x3, .int x4, v5] [] g = some (some (.int 1), g) := by
  rw [b_X8_readChain_39, v_letter h1 h2 h3, mb_some, mp_some, b_X8_readChain_50, v_op_n (ttp_b h1 j) hl hT, mb_some, mp_some, b_X8_readChain_53, m_if_pos rfl, mi_same]
theorem xc_go {L : Nat} {b : Nat → Nat} {j lv : Nat} {g : mG} (h1 : TTP 16 2 L b g) (h2 : j ≤ L) (h3 : g.1 16 3 = nI j) (hT : top lv (tch L b j)) (d : Nat) (x2 x3 x4 : Int32) (v5 : Value) (hk : x4 < x3) : ev none (d + 1) mm_X8_readChain 39 [.ref 16, .int (nI lv), .int x2, .int x3, .int x4, v5] [] g = m_bnd (ev none d mm_X8_readChain 0 [.ref 16, .int (nI (lv + 1)), .int x2, .null, .null, .null] [] (m_s1 g 16 3 (g.1 16 3 + 1))) (fun r g2 => ev none (d + 1) mm_X8_readChain 80 [.ref 16, .int (nI lv), .int x2, .int x3, .int x4, .int (-nI (tch L b j))] (m_psh r []) g2) := by
  have n := tbo_n (top_bo hT)
  rw [b_X8_readChain_39, m_if_pos hk, v_letter h1 h2 h3, mb_some, mp_some, b_X8_readChain_50, v_op_y (ttp_b h1 j) hT, mb_some, mp_some, b_X8_readChain_53, m_if_neg (tneg _ n.2 (by omega)), nI_1]
noncomputable def TLM (lv d : Nat) (v : Value) (g : mG) : Option (Option Value × mG) := if lv = 0 then ev none d mm_X12_either 4 [.ref 55] [] g else if lv = 1 then ev none d mm_X12_both 4 [.ref 55] [] g else if lv = 3 then ev none d mm_X12_sum 4 [.ref 55, v] [] g else ev none d mm_X12_product 4 [.ref 55, v] [] g
theorem lm_start {lv d : Nat} {g : mG} (hlv : lv = 0 ∨ lv = 1 ∨ lv = 3 ∨ lv = 4) {Q : Option Value → mG → Prop} (hq : Ok (EM (lv + 1) d g) (fun r g2 => r = none ∧ ∀ v, Ok (TLM lv (d + 1) v g2) Q)) : Ok (EM lv (d + 1) g) Q := by
  rcases hlv with rfl | rfl | rfl | rfl
  · show Ok (ev none (d + 1) mm_X12_either 0 [.ref 55] [] g) Q
    rw [b_X12_either_0]
    refine ok_bnd hq ?_
    intro r g2 ⟨hr, q⟩
    subst hr
    exact q .null
  · show Ok (ev none (d + 1) mm_X12_both 0 [.ref 55] [] g) Q
    rw [b_X12_both_0]
    refine ok_bnd hq ?_
    intro r g2 ⟨hr, q⟩
    subst hr
    exact q .null
  · show Ok (ev none (d + 1) mm_X12_sum 0 [.ref 55, .null] [] g) Q
    rw [b_X12_sum_0]
    refine ok_bnd hq ?_
    intro r g2 ⟨hr, q⟩
    subst hr
    exact q .null
  · show Ok (ev none (d + 1) mm_X12_product 0 [.ref 55, .null] [] g) Q
    rw [b_X12_product_0]
    refine ok_bnd hq ?_
    intro r g2 ⟨hr, q⟩
    subst hr
    exact q .null
theorem lm_F {L : Nat} {b : Nat → Nat} {f n lv : Nat} {g : mG} (hlv : lv = 0 ∨ lv = 1 ∨ lv = 3 ∨ lv = 4) (h : TMF L b f n g) (d : Nat) (v : Value) : TLM lv (d + 1) v g = some (none, g) := by
  have h120 := h.1.1
  have hf := h.2.1
  have nf : ¬ g.1 55 25 < 0 := by rw [h.2.2.2.1]; exact nI_pos (n := f) (by omega)
  rcases hlv with rfl | rfl | rfl | rfl
  · show ev none (d + 1) mm_X12_either 4 [.ref 55] [] g = _
    rw [b_X12_either_4, m_if_neg nf]
  · show ev none (d + 1) mm_X12_both 4 [.ref 55] [] g = _
    rw [b_X12_both_4, m_if_neg nf]
  · show ev none (d + 1) mm_X12_sum 4 [.ref 55, v] [] g = _
    rw [b_X12_sum_4, m_if_neg nf]
  · show ev none (d + 1) mm_X12_product 4 [.ref 55, v] [] g = _
    rw [b_X12_product_4, m_if_neg nf]
theorem lm_stop {L : Nat} {b : Nat → Nat} {j o lv : Nat} {l : List TS} {g : mG} (hlv : lv = 0 ∨ lv = 1 ∨ lv = 3 ∨ lv = 4) (h : TMS L b j o l g) (hT : ¬ top lv (tch L b j)) (d : Nat) (v : Value) : TLM lv (d + 1) v g = some (none, g) := by
  have hb := ttp_b h.1 j
  have no : ∀ c, 0 < c → c < 128 → top lv c → ¬ tlm L b j = nI c := fun c h0 hc hh e => hT (by rw [(tlm_eq hb h0 hc).mp e]; exact hh)
  have nf : g.1 55 25 < 0 := by rw [h.2.2.2.1]; exact tm1
  have lk := fun d' => v_look h.1 h.2.1 h.2.2.1 d'
  unfold top at no
  rcases hlv with rfl | rfl | rfl | rfl
  · show ev none (d + 1) mm_X12_either 4 [.ref 55] [] g = _
    rw [b_X12_either_4, m_if_pos nf, lk, mb_some, mp_some, b_X12_either_15, m_if_neg (show ¬ tlm L b j = 124 from no 124 (by omega) (by omega) (by omega))]
  · show ev none (d + 1) mm_X12_both 4 [.ref 55] [] g = _
    rw [b_X12_both_4, m_if_pos nf, lk, mb_some, mp_some, b_X12_both_15, m_if_neg (show ¬ tlm L b j = 38 from no 38 (by omega) (by omega) (by omega))]
  · show ev none (d + 1) mm_X12_sum 4 [.ref 55, v] [] g = _
    rw [b_X12_sum_4, m_if_pos nf, lk, mb_some, mp_some, b_X12_sum_15, m_if_neg (show ¬ tlm L b j = 43 from no 43 (by omega) (by omega) (by omega)), lk, mb_some, mp_some, b_X12_sum_24, m_if_neg (show ¬ tlm L b j = 45 from no 45 (by omega) (by omega) (by omega))]
  · show ev none (d + 1) mm_X12_product 4 [.ref 55, v] [] g = _
    rw [b_X12_product_4, m_if_pos nf, lk, mb_some, mp_some, b_X12_product_15, m_if_neg (show ¬ tlm L b j = 42 from no 42 (by omega) (by omega) (by omega)), lk, mb_some, mp_some, b_X12_product_24, m_if_neg (show ¬ tlm L b j = 47 from no 47 (by omega) (by omega) (by omega)), lk, mb_some, mp_some, b_X12_product_33, m_if_neg (show ¬ tlm L b j = 37 from no 37 (by omega) (by omega) (by omega))]
theorem lm_go {L : Nat} {b : Nat → Nat} {j o lv : Nat} {l : List TS} {g : mG} (hlv : lv = 0 ∨ lv = 1 ∨ lv = 3 ∨ lv = 4) (h : TMS L b j o l g) (hT : top lv (tch L b j)) (d : Nat) (v : Value) {Q : Option Value → mG → Prop} (hq : Ok (EM (lv + 1) d (m_s1 g 55 24 (g.1 55 24 + 1))) (fun r g2 => r = none ∧ Ok (ev none d mm_X12_addStep 0 [.ref 55, .int (nI (tch L b j)), .int (nI 0)] [] g2) (fun r g3 => r = none ∧ ∀ v', Ok (TLM lv (d + 1) v' g3) Q))) : Ok (TLM lv (d + 1) v g) Q := by
  have hb := ttp_b h.1 j
  have n := tbo_n (top_bo hT)
  have e := (tlm_eq (i := j) (c := tch L b j) hb (by omega) n.2).mpr rfl
  have nf : g.1 55 25 < 0 := by rw [h.2.2.2.1]; exact tm1
  have lk := fun d' => v_look h.1 h.2.1 h.2.2.1 d'
  rw [e] at lk
  rcases hlv with rfl | rfl | rfl | rfl
  · have hc : tch L b j = 124 := by unfold top at hT; omega
    rw [hc] at hq lk
    show Ok (ev none (d + 1) mm_X12_either 4 [.ref 55] [] g) Q
    rw [b_X12_either_4, m_if_pos nf, lk, mb_some, mp_some, b_X12_either_15, m_if_pos (by decide)]
    refine ok_bnd hq ?_
    intro r g2 ⟨hr, q⟩
    subst hr
    rw [mp_none, b_X12_either_34]
    refine ok_bnd q ?_
    intro r g3 ⟨hr, q⟩
    subst hr
    rw [mp_none, b_X12_either_41]
    exact q .null
  · have hc : tch L b j = 38 := by unfold top at hT; omega
    rw [hc] at hq lk
    show Ok (ev none (d + 1) mm_X12_both 4 [.ref 55] [] g) Q
    rw [b_X12_both_4, m_if_pos nf, lk, mb_some, mp_some, b_X12_both_15, m_if_pos (by decide)]
    refine ok_bnd hq ?_
    intro r g2 ⟨hr, q⟩
    subst hr
    rw [mp_none, b_X12_both_34]
    refine ok_bnd q ?_
    intro r g3 ⟨hr, q⟩
    subst hr
    rw [mp_none, b_X12_both_41]
    exact q .null
  · have go : Ok (ev none (d + 1) mm_X12_sum 29 [.ref 55, v] [] g) Q := by
      rw [b_X12_sum_29, lk, mb_some, mp_some, b_X12_sum_33]
      refine ok_bnd hq ?_
      intro r g2 ⟨hr, q⟩
      subst hr
      rw [mp_none, b_X12_sum_48]
      refine ok_bnd q ?_
      intro r g3 ⟨hr, q⟩
      subst hr
      rw [mp_none, b_X12_sum_54]
      exact q _
    have hc : tch L b j = 43 ∨ tch L b j = 45 := by unfold top at hT; omega
    show Ok (ev none (d + 1) mm_X12_sum 4 [.ref 55, v] [] g) Q
    rcases hc with hc | hc
    · rw [hc] at lk
      rw [b_X12_sum_4, m_if_pos nf, lk, mb_some, mp_some, b_X12_sum_15, m_if_pos (by decide)]
      exact go
    · rw [hc] at lk
      rw [b_X12_sum_4, m_if_pos nf, lk, mb_some, mp_some, b_X12_sum_15, m_if_neg (by decide), lk, mb_some, mp_some, b_X12_sum_24, m_if_pos (by decide)]
      exact go
  · have go : Ok (ev none (d + 1) mm_X12_product 38 [.ref 55, v] [] g) Q := by
      rw [b_X12_product_38, lk, mb_some, mp_some, b_X12_product_42]
      refine ok_bnd hq ?_
      intro r g2 ⟨hr, q⟩
      subst hr
      rw [mp_none, b_X12_product_57]
      refine ok_bnd q ?_
      intro r g3 ⟨hr, q⟩
      subst hr
      rw [mp_none, b_X12_product_63]
      exact q _
    have hc : tch L b j = 42 ∨ tch L b j = 47 ∨ tch L b j = 37 := by unfold top at hT; omega
    show Ok (ev none (d + 1) mm_X12_product 4 [.ref 55, v] [] g) Q
    rcases hc with hc | hc | hc
    · rw [hc] at lk
      rw [b_X12_product_4, m_if_pos nf, lk, mb_some, mp_some, b_X12_product_15, m_if_pos (by decide)]
      exact go
    · rw [hc] at lk
      rw [b_X12_product_4, m_if_pos nf, lk, mb_some, mp_some, b_X12_product_15, m_if_neg (by decide), lk, mb_some, mp_some, b_X12_product_24, m_if_pos (by decide)]
      exact go
    · rw [hc] at lk
      rw [b_X12_product_4, m_if_pos nf, lk, mb_some, mp_some, b_X12_product_15, m_if_neg (by decide), lk, mb_some, mp_some, b_X12_product_24, m_if_neg (by decide), lk, mb_some, mp_some, b_X12_product_33, m_if_pos (by decide)]
      exact go
theorem xq_fr {L : Nat} {b : Nat → Nat} {g0 g : mG} {l : List TS} {R : TR} {r : Option Value} {g2 : mG} (F : Fr sTP g0 g) (h : TXQ L b g l R r g2) : TXQ L b g0 l R r g2 := by
  match R, h with
  | (j, some e), h => exact ⟨h.1, h.2.1, fr_trans F h.2.2⟩
  | (f, none), h => exact ⟨h.1, h.2.1, fr_trans F h.2.2⟩
theorem mq_fr {L : Nat} {b : Nat → Nat} {o i : Nat} {g0 g : mG} {l : List TS} {R : TR} {r : Option Value} {g2 : mG} (F : Fr sTP g0 g) (h : TMQ L b o i g l R r g2) : TMQ L b o i g0 l R r g2 := by
  match R, h with
  | (j, some e), h => exact ⟨h.1, h.2.1, fr_trans F h.2.2⟩
  | (f, none), h => exact ⟨h.1, h.2.1, fr_trans F h.2.2⟩
theorem xq_01 {L : Nat} {b : Nat → Nat} {g : mG} {l : List TS} {R : TR} {r : Option Value} {g2 : mG} (h : TXQ L b g l R r g2) : r = some (.int 0) ∨ r = some (.int 1) := by
  match R, h with
  | (j, some e), h => exact Or.inr h.1
  | (f, none), h =>
    rcases h.1 with h | h
    · exact Or.inl h
    · exact Or.inr h.1
theorem jc_5 {L : Nat} {b : Nat → Nat} {o i : Nat} (h : JO L b o i) : JC L b 5 o i := by
  obtain ⟨R, w, x, m⟩ := h
  refine ⟨R, w, ?_, ?_⟩
  · intro d g l dd hl h
    obtain ⟨d, rfl⟩ : ∃ e, d = e + 1 := ⟨d - 1, by omega⟩
    rw [b_X8_readChain_0, m_if_neg (by decide)]
    refine ok_bnd (x d g l (by omega) hl h) ?_
    intro r g2 q
    rcases xq_01 q with hr | hr
    · subst hr
      rw [mp_some, b_X8_readChain_10, if_pos (by decide)]
      exact ok_some q
    · subst hr
      rw [mp_some, b_X8_readChain_10, if_pos (by decide)]
      exact ok_some q
  · intro d g l dd hl h
    exact m d g l (by omega) hl h
