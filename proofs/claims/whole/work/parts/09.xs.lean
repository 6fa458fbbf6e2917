set_option maxHeartbeats 4000000 in
set_option maxRecDepth 100000 in
theorem m_xs_sound {β : Type} {p : Program} {l : Launch} {e : Env} {R : Room} {s : State} {m : MethodId} {args : Array Value} {below : List Frame} {meth : Method} {c : Code} {H : Heap} {locs : List Loc} {cells slots : Nat} {Q : State → Prop} {ls : Array Slot} {D : va_G} {cA : Nat → ClassId} {ad : Nat → Nat} {A : Nat → Prop} {oc : Nat} {cc : ByteArray} {maxL : Nat} {sc : Option (Nat × (Nat → Int32))} {o : mO} {L S : List Value} {g : mG} {κ : Nat → List Value → List Value → mG → Option β} {z : β}
    (hx : p.tables.exec = Jvm.exec) (hb : c.code = cc) (hown : s.vm.findClass (m_own oc) = some m.cls) (hts : ∀ w ∈ lw_tbl, goodWord w = true → w.before args s = true) (hK : m_K D cA ad A s) (hD : ∀ g, va_D A (m_w ad cA g)) (hsc : ∀ q, sc = some q → va_X (ad 999) q.1 q.2 s s.heap ∧ ad 999 < s.heap.size ∧ ¬ A (ad 999))
    (hch : m_ochk oc cc maxL o = true) (hP : va_P D vwCl (m_w ad cA g) H) (hS : va_S A s.heap H locs) (hl : m_lv ad ls maxL L) (h : m_xs sc o L S g κ = some z)
    (kk : ∀ (pc : Nat) (L : List Value) (S : List Value) (g : mG), κ pc L S g = some z → ∀ (H : Heap) (locs : List Loc) (ls : Array Slot), va_P D vwCl (m_w ad cA g) H → va_S A s.heap H locs → m_lv ad ls maxL L → W p l e R s m args below meth c H locs cells slots Q (F0 m pc ls (S.map (m_tr ad)))) :
    W p l e R s m args below meth c H locs cells slots Q (F0 m o.1 ls (S.map (m_tr ad))) := by
  obtain ⟨pc, i, len, k, v, w, ts⟩ := o
  show W p l e R s m args below meth c H locs cells slots Q (F0 m pc ls (S.map (m_tr ad)))
  cases i with
  | iconst n =>
    simp only [m_ochk, Bool.and_eq_true, decide_eq_true_eq, Nat.beq_eq] at hch
    obtain ⟨hd, rfl, hv⟩ := hch
    exact lv_iconst hx hb hd hv (kk _ _ _ _ h _ _ _ hP hS hl)
  | bipush n =>
    simp only [m_ochk, Bool.and_eq_true, decide_eq_true_eq, Nat.beq_eq] at hch
    obtain ⟨hd, rfl, hv⟩ := hch
    exact lv_bipush hx hb hd hv (kk _ _ _ _ h _ _ _ hP hS hl)
  | sipush n =>
    simp only [m_ochk, Bool.and_eq_true, decide_eq_true_eq, Nat.beq_eq] at hch
    obtain ⟨hd, rfl, hv⟩ := hch
    exact lv_sipush hx hb hd hv (kk _ _ _ _ h _ _ _ hP hS hl)
  | lconst n =>
    simp only [m_ochk, Bool.and_eq_true, decide_eq_true_eq, Nat.beq_eq] at hch
    obtain ⟨hd, rfl, hv⟩ := hch
    exact lv_lconst hx hb hd hv (kk _ _ _ _ h _ _ _ hP hS hl)
  | ldc n =>
    simp only [m_ochk, Bool.and_eq_true, decide_eq_true_eq, Nat.beq_eq] at hch
    obtain ⟨hd, rfl, hv⟩ := hch
    exact lv_ldc hx hb hown (hts _ (m_wd_in hv) rfl) hd (kk _ _ _ _ h _ _ _ hP hS hl)
  | ldc_w n =>
    simp only [m_ochk, Bool.and_eq_true, decide_eq_true_eq, Nat.beq_eq] at hch
    obtain ⟨hd, rfl, hv⟩ := hch
    exact lv_ldcw hx hb hown (hts _ (m_wd_in hv) rfl) hd (kk _ _ _ _ h _ _ _ hP hS hl)
  | ldc2_w n =>
    simp only [m_ochk, Bool.and_eq_true, decide_eq_true_eq, Nat.beq_eq] at hch
    obtain ⟨hd, rfl, hv⟩ := hch
    exact lv_ldc2 hx hb hown (hts _ (m_wd_in hv) rfl) hd (kk _ _ _ _ h _ _ _ hP hS hl)
  | iload_n n =>
    simp only [m_ochk, Bool.and_eq_true, decide_eq_true_eq, Nat.beq_eq] at hch
    obtain ⟨hd, rfl, hv⟩ := hch
    obtain ⟨x, hk, h⟩ := m_qi_inv h
    exact lv_iload_n hx hb hd hv (hl.at hk (fun e => by cases e)) (kk _ _ _ _ h _ _ _ hP hS hl)
  | iload n =>
    simp only [m_ochk, Bool.and_eq_true, decide_eq_true_eq, Nat.beq_eq] at hch
    obtain ⟨hd, rfl, rfl⟩ := hch
    obtain ⟨x, hk, h⟩ := m_qi_inv h
    exact lv_iload hx hb hd (hl.at hk (fun e => by cases e)) (kk _ _ _ _ h _ _ _ hP hS hl)
  | lload_n n =>
    simp only [m_ochk, Bool.and_eq_true, decide_eq_true_eq, Nat.beq_eq] at hch
    obtain ⟨hd, rfl, hv⟩ := hch
    obtain ⟨x, hk, h⟩ := m_ql_inv h
    exact lv_lload_n hx hb hd hv (hl.at hk (fun e => by cases e)) (kk _ _ _ _ h _ _ _ hP hS hl)
  | lload n =>
    simp only [m_ochk, Bool.and_eq_true, decide_eq_true_eq, Nat.beq_eq] at hch
    obtain ⟨hd, rfl, rfl⟩ := hch
    obtain ⟨x, hk, h⟩ := m_ql_inv h
    exact lv_lload hx hb hd (hl.at hk (fun e => by cases e)) (kk _ _ _ _ h _ _ _ hP hS hl)
  | aload_n n =>
    simp only [m_ochk, Bool.and_eq_true, decide_eq_true_eq, Nat.beq_eq] at hch
    obtain ⟨hd, rfl, hv⟩ := hch
    obtain ⟨x, hk, h⟩ := m_qa_inv h
    exact lv_aload_n hx hb hd hv (hl.at hk (fun e => by cases e)) (kk _ _ _ _ h _ _ _ hP hS hl)
  | aload n =>
    simp only [m_ochk, Bool.and_eq_true, decide_eq_true_eq, Nat.beq_eq] at hch
    obtain ⟨hd, rfl, rfl⟩ := hch
    obtain ⟨x, hk, h⟩ := m_qa_inv h
    exact lv_aload hx hb hd (hl.at hk (fun e => by cases e)) (kk _ _ _ _ h _ _ _ hP hS hl)
  | istore_n n =>
    simp only [m_ochk, Bool.and_eq_true, decide_eq_true_eq, Nat.beq_eq] at hch
    obtain ⟨hd, rfl, hv, hn⟩ := hch
    have h0 := m_pi_inv h
    clear h
    obtain ⟨x, S, rfl, h⟩ := h0
    exact lv_istore_n hx hb hd hv hl.has hn rfl (fun ls2 hl2 => kk _ _ _ _ h _ _ _ hP hS (hl.st1 hl2))
  | istore n =>
    simp only [m_ochk, Bool.and_eq_true, decide_eq_true_eq, Nat.beq_eq] at hch
    obtain ⟨hd, rfl, rfl, hn⟩ := hch
    have h0 := m_pi_inv h
    clear h
    obtain ⟨x, S, rfl, h⟩ := h0
    exact lv_istore hx hb hd hl.has hn rfl (fun ls2 hl2 => kk _ _ _ _ h _ _ _ hP hS (hl.st1 hl2))
  | lstore_n n =>
    simp only [m_ochk, Bool.and_eq_true, decide_eq_true_eq, Nat.beq_eq] at hch
    obtain ⟨hd, rfl, hv, hn⟩ := hch
    have h0 := m_pl_inv h
    clear h
    obtain ⟨x, S, rfl, h⟩ := h0
    exact lv_lstore_n hx hb hd hv hl.has hn rfl (fun ls2 hl2 => kk _ _ _ _ h _ _ _ hP hS (hl.st2 hl2))
  | lstore n =>
    simp only [m_ochk, Bool.and_eq_true, decide_eq_true_eq, Nat.beq_eq] at hch
    obtain ⟨hd, rfl, rfl, hn⟩ := hch
    have h0 := m_pl_inv h
    clear h
    obtain ⟨x, S, rfl, h⟩ := h0
    exact lv_lstore hx hb hd hl.has hn rfl (fun ls2 hl2 => kk _ _ _ _ h _ _ _ hP hS (hl.st2 hl2))
  | astore_n n =>
    simp only [m_ochk, Bool.and_eq_true, decide_eq_true_eq, Nat.beq_eq] at hch
    obtain ⟨hd, rfl, hv, hn⟩ := hch
    have h0 := m_pa_inv h
    clear h
    obtain ⟨x, S, rfl, h⟩ := h0
    exact lv_astore_n hx hb hd hv hl.has hn rfl (fun ls2 hl2 => kk _ _ _ _ h _ _ _ hP hS (hl.st1 hl2))
  | astore n =>
    simp only [m_ochk, Bool.and_eq_true, decide_eq_true_eq, Nat.beq_eq] at hch
    obtain ⟨hd, rfl, rfl, hn⟩ := hch
    have h0 := m_pa_inv h
    clear h
    obtain ⟨x, S, rfl, h⟩ := h0
    exact lv_astore hx hb hd hl.has hn rfl (fun ls2 hl2 => kk _ _ _ _ h _ _ _ hP hS (hl.st1 hl2))
  | iinc n q =>
    simp only [m_ochk, Bool.and_eq_true, decide_eq_true_eq, Nat.beq_eq] at hch
    obtain ⟨hd, rfl, rfl, rfl, hn⟩ := hch
    obtain ⟨x, hk, h⟩ := m_qi_inv h
    obtain ⟨j, hj⟩ := List.getElem?_of_mem (m_prs_in (ad := ad) hk (fun e => by cases e))
    exact lv_iinc hx hb hd hl.has (k := j) hj rfl hn rfl (fun ls2 hl2 => kk _ _ _ _ h _ _ _ hP hS (hl.st1 (x := .int _) hl2))
  | iadd =>
    simp only [m_ochk, Bool.and_eq_true, decide_eq_true_eq, Nat.beq_eq] at hch
    obtain ⟨hd, rfl⟩ := hch
    have h0 := m_pi_inv h
    clear h
    obtain ⟨y, S, rfl, h⟩ := h0
    have h0 := m_pi_inv h
    clear h
    obtain ⟨x, S, rfl, h⟩ := h0
    exact lv_iadd hx hb hd (kk _ _ _ _ h _ _ _ hP hS hl)
  | isub =>
    simp only [m_ochk, Bool.and_eq_true, decide_eq_true_eq, Nat.beq_eq] at hch
    obtain ⟨hd, rfl⟩ := hch
    have h0 := m_pi_inv h
    clear h
    obtain ⟨y, S, rfl, h⟩ := h0
    have h0 := m_pi_inv h
    clear h
    obtain ⟨x, S, rfl, h⟩ := h0
    exact lv_isub hx hb hd (kk _ _ _ _ h _ _ _ hP hS hl)
  | imul =>
    simp only [m_ochk, Bool.and_eq_true, decide_eq_true_eq, Nat.beq_eq] at hch
    obtain ⟨hd, rfl⟩ := hch
    have h0 := m_pi_inv h
    clear h
    obtain ⟨y, S, rfl, h⟩ := h0
    have h0 := m_pi_inv h
    clear h
    obtain ⟨x, S, rfl, h⟩ := h0
    exact lv_imul hx hb hd (kk _ _ _ _ h _ _ _ hP hS hl)
  | iand =>
    simp only [m_ochk, Bool.and_eq_true, decide_eq_true_eq, Nat.beq_eq] at hch
    obtain ⟨hd, rfl⟩ := hch
    have h0 := m_pi_inv h
    clear h
    obtain ⟨y, S, rfl, h⟩ := h0
    have h0 := m_pi_inv h
    clear h
    obtain ⟨x, S, rfl, h⟩ := h0
    exact lv_iand hx hb hd (kk _ _ _ _ h _ _ _ hP hS hl)
  | ior =>
    simp only [m_ochk, Bool.and_eq_true, decide_eq_true_eq, Nat.beq_eq] at hch
    obtain ⟨hd, rfl⟩ := hch
    have h0 := m_pi_inv h
    clear h
    obtain ⟨y, S, rfl, h⟩ := h0
    have h0 := m_pi_inv h
    clear h
    obtain ⟨x, S, rfl, h⟩ := h0
    exact lv_ior hx hb hd (kk _ _ _ _ h _ _ _ hP hS hl)
  | ixor =>
    simp only [m_ochk, Bool.and_eq_true, decide_eq_true_eq, Nat.beq_eq] at hch
    obtain ⟨hd, rfl⟩ := hch
    have h0 := m_pi_inv h
    clear h
    obtain ⟨y, S, rfl, h⟩ := h0
    have h0 := m_pi_inv h
    clear h
    obtain ⟨x, S, rfl, h⟩ := h0
    exact lv_ixor hx hb hd (kk _ _ _ _ h _ _ _ hP hS hl)
  | ishl =>
    simp only [m_ochk, Bool.and_eq_true, decide_eq_true_eq, Nat.beq_eq] at hch
    obtain ⟨hd, rfl⟩ := hch
    have h0 := m_pi_inv h
    clear h
    obtain ⟨y, S, rfl, h⟩ := h0
    have h0 := m_pi_inv h
    clear h
    obtain ⟨x, S, rfl, h⟩ := h0
    exact lv_ishl hx hb hd (kk _ _ _ _ h _ _ _ hP hS hl)
  | ishr =>
    simp only [m_ochk, Bool.and_eq_true, decide_eq_true_eq, Nat.beq_eq] at hch
    obtain ⟨hd, rfl⟩ := hch
    have h0 := m_pi_inv h
    clear h
    obtain ⟨y, S, rfl, h⟩ := h0
    have h0 := m_pi_inv h
    clear h
    obtain ⟨x, S, rfl, h⟩ := h0
    exact lv_ishr hx hb hd (kk _ _ _ _ h _ _ _ hP hS hl)
  | iushr =>
    simp only [m_ochk, Bool.and_eq_true, decide_eq_true_eq, Nat.beq_eq] at hch
    obtain ⟨hd, rfl⟩ := hch
    have h0 := m_pi_inv h
    clear h
    obtain ⟨y, S, rfl, h⟩ := h0
    have h0 := m_pi_inv h
    clear h
    obtain ⟨x, S, rfl, h⟩ := h0
    exact lv_iushr hx hb hd rfl (kk _ _ _ _ h _ _ _ hP hS hl)
  | ladd =>
    simp only [m_ochk, Bool.and_eq_true, decide_eq_true_eq, Nat.beq_eq] at hch
    obtain ⟨hd, rfl⟩ := hch
    have h0 := m_pl_inv h
    clear h
    obtain ⟨y, S, rfl, h⟩ := h0
    have h0 := m_pl_inv h
    clear h
    obtain ⟨x, S, rfl, h⟩ := h0
    exact lv_ladd hx hb hd (kk _ _ _ _ h _ _ _ hP hS hl)
  | lmul =>
    simp only [m_ochk, Bool.and_eq_true, decide_eq_true_eq, Nat.beq_eq] at hch
    obtain ⟨hd, rfl⟩ := hch
    have h0 := m_pl_inv h
    clear h
    obtain ⟨y, S, rfl, h⟩ := h0
    have h0 := m_pl_inv h
    clear h
    obtain ⟨x, S, rfl, h⟩ := h0
    exact lv_lmul hx hb hd (kk _ _ _ _ h _ _ _ hP hS hl)
  | land =>
    simp only [m_ochk, Bool.and_eq_true, decide_eq_true_eq, Nat.beq_eq] at hch
    obtain ⟨hd, rfl⟩ := hch
    have h0 := m_pl_inv h
    clear h
    obtain ⟨y, S, rfl, h⟩ := h0
    have h0 := m_pl_inv h
    clear h
    obtain ⟨x, S, rfl, h⟩ := h0
    exact lv_land hx hb hd (kk _ _ _ _ h _ _ _ hP hS hl)
  | lor =>
    simp only [m_ochk, Bool.and_eq_true, decide_eq_true_eq, Nat.beq_eq] at hch
    obtain ⟨hd, rfl⟩ := hch
    have h0 := m_pl_inv h
    clear h
    obtain ⟨y, S, rfl, h⟩ := h0
    have h0 := m_pl_inv h
    clear h
    obtain ⟨x, S, rfl, h⟩ := h0
    exact lv_lor hx hb hd (kk _ _ _ _ h _ _ _ hP hS hl)
  | idiv =>
    simp only [m_ochk, Bool.and_eq_true, decide_eq_true_eq, Nat.beq_eq] at hch
    obtain ⟨hd, rfl⟩ := hch
    have h0 := m_pi_inv h
    clear h
    obtain ⟨y, S, rfl, h⟩ := h0
    have h0 := m_pi_inv h
    clear h
    obtain ⟨x, S, rfl, h⟩ := h0
    by_cases hy : y = 0
    · rw [if_pos hy] at h; cases h
    · rw [if_neg hy] at h
      exact lv_idiv hx hb hd hy (kk _ _ _ _ h _ _ _ hP hS hl)
  | irem =>
    simp only [m_ochk, Bool.and_eq_true, decide_eq_true_eq, Nat.beq_eq] at hch
    obtain ⟨hd, rfl⟩ := hch
    have h0 := m_pi_inv h
    clear h
    obtain ⟨y, S, rfl, h⟩ := h0
    have h0 := m_pi_inv h
    clear h
    obtain ⟨x, S, rfl, h⟩ := h0
    by_cases hy : y = 0
    · rw [if_pos hy] at h; cases h
    · rw [if_neg hy] at h
      exact lv_irem hx hb hd hy (kk _ _ _ _ h _ _ _ hP hS hl)
  | ldiv =>
    simp only [m_ochk, Bool.and_eq_true, decide_eq_true_eq, Nat.beq_eq] at hch
    obtain ⟨hd, rfl⟩ := hch
    have h0 := m_pl_inv h
    clear h
    obtain ⟨y, S, rfl, h⟩ := h0
    have h0 := m_pl_inv h
    clear h
    obtain ⟨x, S, rfl, h⟩ := h0
    by_cases hy : y = 0
    · rw [if_pos hy] at h; cases h
    · rw [if_neg hy] at h
      exact lv_ldiv hx hb hd hy (kk _ _ _ _ h _ _ _ hP hS hl)
  | lrem =>
    simp only [m_ochk, Bool.and_eq_true, decide_eq_true_eq, Nat.beq_eq] at hch
    obtain ⟨hd, rfl⟩ := hch
    have h0 := m_pl_inv h
    clear h
    obtain ⟨y, S, rfl, h⟩ := h0
    have h0 := m_pl_inv h
    clear h
    obtain ⟨x, S, rfl, h⟩ := h0
    by_cases hy : y = 0
    · rw [if_pos hy] at h; cases h
    · rw [if_neg hy] at h
      exact lv_lrem hx hb hd hy (kk _ _ _ _ h _ _ _ hP hS hl)
  | ineg =>
    simp only [m_ochk, Bool.and_eq_true, decide_eq_true_eq, Nat.beq_eq] at hch
    obtain ⟨hd, rfl⟩ := hch
    have h0 := m_pi_inv h
    clear h
    obtain ⟨x, S, rfl, h⟩ := h0
    exact lv_ineg hx hb hd (kk _ _ _ _ h _ _ _ hP hS hl)
  | i2l =>
    simp only [m_ochk, Bool.and_eq_true, decide_eq_true_eq, Nat.beq_eq] at hch
    obtain ⟨hd, rfl⟩ := hch
    have h0 := m_pi_inv h
    clear h
    obtain ⟨x, S, rfl, h⟩ := h0
    exact lv_i2l hx hb hd rfl (kk _ _ _ _ h _ _ _ hP hS hl)
  | i2b =>
    simp only [m_ochk, Bool.and_eq_true, decide_eq_true_eq, Nat.beq_eq] at hch
    obtain ⟨hd, rfl⟩ := hch
    have h0 := m_pi_inv h
    clear h
    obtain ⟨x, S, rfl, h⟩ := h0
    exact lv_i2b hx hb hd rfl (kk _ _ _ _ h _ _ _ hP hS hl)
  | i2s =>
    simp only [m_ochk, Bool.and_eq_true, decide_eq_true_eq, Nat.beq_eq] at hch
    obtain ⟨hd, rfl⟩ := hch
    have h0 := m_pi_inv h
    clear h
    obtain ⟨x, S, rfl, h⟩ := h0
    exact lv_i2s hx hb hd rfl (kk _ _ _ _ h _ _ _ hP hS hl)
  | l2i =>
    simp only [m_ochk, Bool.and_eq_true, decide_eq_true_eq, Nat.beq_eq] at hch
    obtain ⟨hd, rfl⟩ := hch
    have h0 := m_pl_inv h
    clear h
    obtain ⟨x, S, rfl, h⟩ := h0
    exact lv_l2i hx hb hd rfl (kk _ _ _ _ h _ _ _ hP hS hl)
  | lshl =>
    simp only [m_ochk, Bool.and_eq_true, decide_eq_true_eq, Nat.beq_eq] at hch
    obtain ⟨hd, rfl⟩ := hch
    have h0 := m_pi_inv h
    clear h
    obtain ⟨y, S, rfl, h⟩ := h0
    have h0 := m_pl_inv h
    clear h
    obtain ⟨x, S, rfl, h⟩ := h0
    exact lv_lshl hx hb hd rfl (kk _ _ _ _ h _ _ _ hP hS hl)
  | lcmp =>
    simp only [m_ochk, Bool.and_eq_true, decide_eq_true_eq, Nat.beq_eq] at hch
    obtain ⟨hd, rfl⟩ := hch
    have h0 := m_pl_inv h
    clear h
    obtain ⟨y, S, rfl, h⟩ := h0
    have h0 := m_pl_inv h
    clear h
    obtain ⟨x, S, rfl, h⟩ := h0
    exact W.lcmp hx hb hd (kk _ _ _ _ h _ _ _ hP hS hl)
  | dup =>
    simp only [m_ochk, Bool.and_eq_true, decide_eq_true_eq, Nat.beq_eq] at hch
    obtain ⟨hd, rfl⟩ := hch
    cases S with
    | nil => cases h
    | cons x t =>
      rcases lv_cat x with hc | hc
      · replace h : (match x.category with | 1 => κ (pc + 1) L (x :: x :: t) g | _ => none) = some z := h
        rw [hc] at h
        exact lv_dup hx hb hd ((m_tr_cat x).trans hc) (kk _ _ _ _ h _ _ _ hP hS hl)
      · replace h : (match x.category with | 1 => κ (pc + 1) L (x :: x :: t) g | _ => none) = some z := h
        rw [hc] at h
        cases h
  | pop =>
    simp only [m_ochk, Bool.and_eq_true, decide_eq_true_eq, Nat.beq_eq] at hch
    obtain ⟨hd, rfl⟩ := hch
    cases S with
    | nil => cases h
    | cons x t =>
      rcases lv_cat x with hc | hc
      · replace h : (match x.category with | 1 => κ (pc + 1) L t g | _ => none) = some z := h
        rw [hc] at h
        exact lv_pop hx hb hd ((m_tr_cat x).trans hc) (kk _ _ _ _ h _ _ _ hP hS hl)
      · replace h : (match x.category with | 1 => κ (pc + 1) L t g | _ => none) = some z := h
        rw [hc] at h
        cases h
  | dup2 =>
    simp only [m_ochk, Bool.and_eq_true, decide_eq_true_eq, Nat.beq_eq] at hch
    obtain ⟨hd, rfl⟩ := hch
    match S, h with
    | [], h => cases h
    | [x], h => cases h
    | x :: y :: t, h =>
      replace h : (match x.category, y.category with | 1, 1 => κ (pc + 1) L (x :: y :: x :: y :: t) g | _, _ => none) = some z := h
      rcases lv_cat x with hc | hc
      · rcases lv_cat y with hc2 | hc2
        · rw [hc, hc2] at h
          exact lv_dup2_11 hx hb hd ((m_tr_cat x).trans hc) ((m_tr_cat y).trans hc2) (kk _ _ _ _ h _ _ _ hP hS hl)
        · rw [hc, hc2] at h; cases h
      · rw [hc] at h; cases h
  | ifCond cnd off =>
    simp only [m_ochk, Bool.and_eq_true, decide_eq_true_eq, Nat.beq_eq] at hch
    obtain ⟨hd, rfl, ht⟩ := hch
    cases cnd with
    | eq =>
      have h0 := m_pi_inv h
      clear h
      obtain ⟨x, S, rfl, h⟩ := h0
      exact lv_if_eq hx hb hd ht (fun hc => by rw [m_if_pos hc] at h; exact kk _ _ _ _ h _ _ _ hP hS hl) (fun hc => by rw [m_if_neg hc] at h; exact kk _ _ _ _ h _ _ _ hP hS hl)
    | ne =>
      have h0 := m_pi_inv h
      clear h
      obtain ⟨x, S, rfl, h⟩ := h0
      exact lv_if_ne hx hb hd ht (fun hc => by rw [m_if_neg hc] at h; exact kk _ _ _ _ h _ _ _ hP hS hl) (fun hc => by rw [m_if_pos hc] at h; exact kk _ _ _ _ h _ _ _ hP hS hl)
    | lt =>
      have h0 := m_pi_inv h
      clear h
      obtain ⟨x, S, rfl, h⟩ := h0
      exact lv_if_lt hx hb hd ht (fun hc => by rw [m_if_pos hc] at h; exact kk _ _ _ _ h _ _ _ hP hS hl) (fun hc => by rw [m_if_neg hc] at h; exact kk _ _ _ _ h _ _ _ hP hS hl)
    | ge =>
      have h0 := m_pi_inv h
      clear h
      obtain ⟨x, S, rfl, h⟩ := h0
      exact lv_if_ge hx hb hd ht (fun hc => by rw [m_if_neg (Int32.not_lt.mpr hc)] at h; exact kk _ _ _ _ h _ _ _ hP hS hl) (fun hc => by rw [m_if_pos (Int32.not_le.mp hc)] at h; exact kk _ _ _ _ h _ _ _ hP hS hl)
    | gt =>
      have h0 := m_pi_inv h
      clear h
      obtain ⟨x, S, rfl, h⟩ := h0
      exact lv_if_gt hx hb hd ht (fun hc => by rw [m_if_pos hc] at h; exact kk _ _ _ _ h _ _ _ hP hS hl) (fun hc => by rw [m_if_neg hc] at h; exact kk _ _ _ _ h _ _ _ hP hS hl)
    | le =>
      have h0 := m_pi_inv h
      clear h
      obtain ⟨x, S, rfl, h⟩ := h0
      exact lv_if_le hx hb hd ht (fun hc => by rw [m_if_neg (Int32.not_lt.mpr hc)] at h; exact kk _ _ _ _ h _ _ _ hP hS hl) (fun hc => by rw [m_if_pos (Int32.not_le.mp hc)] at h; exact kk _ _ _ _ h _ _ _ hP hS hl)
  | if_icmp cnd off =>
    simp only [m_ochk, Bool.and_eq_true, decide_eq_true_eq, Nat.beq_eq] at hch
    obtain ⟨hd, rfl, ht⟩ := hch
    cases cnd with
    | eq =>
      have h0 := m_pi_inv h
      clear h
      obtain ⟨y, S, rfl, h⟩ := h0
      have h0 := m_pi_inv h
      clear h
      obtain ⟨x, S, rfl, h⟩ := h0
      exact lv_icmp_eq hx hb hd ht (fun hc => by rw [m_if_pos hc] at h; exact kk _ _ _ _ h _ _ _ hP hS hl) (fun hc => by rw [m_if_neg hc] at h; exact kk _ _ _ _ h _ _ _ hP hS hl)
    | ne =>
      have h0 := m_pi_inv h
      clear h
      obtain ⟨y, S, rfl, h⟩ := h0
      have h0 := m_pi_inv h
      clear h
      obtain ⟨x, S, rfl, h⟩ := h0
      exact lv_icmp_ne hx hb hd ht (fun hc => by rw [m_if_neg hc] at h; exact kk _ _ _ _ h _ _ _ hP hS hl) (fun hc => by rw [m_if_pos hc] at h; exact kk _ _ _ _ h _ _ _ hP hS hl)
    | lt =>
      have h0 := m_pi_inv h
      clear h
      obtain ⟨y, S, rfl, h⟩ := h0
      have h0 := m_pi_inv h
      clear h
      obtain ⟨x, S, rfl, h⟩ := h0
      exact lv_icmp_lt hx hb hd ht (fun hc => by rw [m_if_pos hc] at h; exact kk _ _ _ _ h _ _ _ hP hS hl) (fun hc => by rw [m_if_neg hc] at h; exact kk _ _ _ _ h _ _ _ hP hS hl)
    | ge =>
      have h0 := m_pi_inv h
      clear h
      obtain ⟨y, S, rfl, h⟩ := h0
      have h0 := m_pi_inv h
      clear h
      obtain ⟨x, S, rfl, h⟩ := h0
      exact lv_icmp_ge hx hb hd ht (fun hc => by rw [m_if_neg (Int32.not_lt.mpr hc)] at h; exact kk _ _ _ _ h _ _ _ hP hS hl) (fun hc => by rw [m_if_pos (Int32.not_le.mp hc)] at h; exact kk _ _ _ _ h _ _ _ hP hS hl)
    | gt =>
      have h0 := m_pi_inv h
      clear h
      obtain ⟨y, S, rfl, h⟩ := h0
      have h0 := m_pi_inv h
      clear h
      obtain ⟨x, S, rfl, h⟩ := h0
      exact lv_icmp_gt hx hb hd ht (fun hc => by rw [m_if_pos hc] at h; exact kk _ _ _ _ h _ _ _ hP hS hl) (fun hc => by rw [m_if_neg hc] at h; exact kk _ _ _ _ h _ _ _ hP hS hl)
    | le =>
      have h0 := m_pi_inv h
      clear h
      obtain ⟨y, S, rfl, h⟩ := h0
      have h0 := m_pi_inv h
      clear h
      obtain ⟨x, S, rfl, h⟩ := h0
      exact lv_icmp_le hx hb hd ht (fun hc => by rw [m_if_neg (Int32.not_lt.mpr hc)] at h; exact kk _ _ _ _ h _ _ _ hP hS hl) (fun hc => by rw [m_if_pos (Int32.not_le.mp hc)] at h; exact kk _ _ _ _ h _ _ _ hP hS hl)
  | goto off =>
    simp only [m_ochk, Bool.and_eq_true, decide_eq_true_eq, Nat.beq_eq] at hch
    obtain ⟨hd, rfl, ht⟩ := hch
    exact lv_goto hx hb hd ht (kk _ _ _ _ h _ _ _ hP hS hl)
  | tableswitch d lo hi os =>
    simp only [m_ochk, Bool.and_eq_true, decide_eq_true_eq, Nat.beq_eq] at hch
    obtain ⟨hd, ht, hhi, hts2⟩ := hch
    have h0 := m_pi_inv h
    clear h
    obtain ⟨x, S, rfl, h⟩ := h0
    rcases m_sw_t (x := x) (k := k) (f := fun t => κ t L S g) os.toList lo ts hts2 with ⟨h1, h2⟩ | ⟨h1, h2, off, t, h3, h4, h5⟩
    · rw [h2] at h
      exact lv_tableOut hx hb hd (by rw [hhi]; exact h1) ht (kk _ _ _ _ h _ _ _ hP hS hl)
    · rw [h4] at h
      exact lv_tableIn hx hb hd h1 (by rw [hhi]; exact h2) (by rw [← Array.getElem?_toList]; exact h3) h5 (kk _ _ _ _ h _ _ _ hP hS hl)
  | lookupswitch d ps =>
    simp only [m_ochk, Bool.and_eq_true, decide_eq_true_eq, Nat.beq_eq] at hch
    obtain ⟨hd, ht, hso, hts2⟩ := hch
    have h0 := m_pi_inv h
    clear h
    obtain ⟨x, S, rfl, h⟩ := h0
    obtain ⟨t, h1, h2⟩ := m_sw_k (x := x) (f := fun t => κ t L S g) ht ps.toList ts hts2
    rw [h1] at h
    exact lv_lookup hx hb hd hso rfl h2 (kk _ _ _ _ h _ _ _ hP hS hl)
  | getfield idx =>
    simp only [m_ochk, Bool.and_eq_true, decide_eq_true_eq, Nat.beq_eq] at hch
    obtain ⟨hd, rfl, hv⟩ := hch
    have h0 := m_pa_inv h
    clear h
    obtain ⟨a, S, rfl, h⟩ := h0
    obtain ⟨fs, q, hs, hf, h⟩ := m_fld_inv h
    obtain ⟨pl, nest, hv⟩ := m_any_inv m_fl_ok hv
    obtain ⟨⟨C, T, N⟩, hc, hN, hw⟩ := m_fchk_inv hv
    have hok := m_cl_ok _ _ hc
    have hgo : W p l e R s m args below meth c H locs cells slots Q (F0 m (pc + 3) ls (m_fv ad g a (k % 100) q :: S.map (m_tr ad))) := by
      match q, h with
      | 0, h => exact kk _ _ _ _ h _ _ _ hP hS hl
      | 1, h => exact kk _ _ _ _ h _ _ _ hP hS hl
      | 2, h => exact kk _ _ _ _ h _ _ _ hP hS hl
      | j + 3, h => exact kk _ _ _ _ h _ _ _ hP hS hl
    rcases hw with hw | hw
    · exact va_get (v := m_fv ad g a (k % 100) q) hx hb (Ts := m_gt) (fun w h9 => hts w (m_gt_in h9).1 (m_gt_in h9).2) (fun w h9 => m_gt_of (hok.1 w h9).1 (hok.1 w h9).2) hown hK.1 hP a (m_w_at hs) hc (k % 100) hN (hts _ hw rfl) (fun _ h9 => h9) (m_fs_at hf) hd hgo
    · exact va_getN (v := m_fv ad g a (k % 100) q) hx hb (Ts := m_gt) (fun w h9 => hts w (m_gt_in h9).1 (m_gt_in h9).2) (fun w h9 => m_gt_of (hok.1 w h9).1 (hok.1 w h9).2) hown hK.1 hP a (m_w_at hs) hc (k % 100) hN (va_Nw.use rfl (hK.2.1 _ hw rfl)) (fun _ h9 => h9) (m_fs_at hf) hd hgo
  | putfield idx =>
    simp only [m_ochk, Bool.and_eq_true, decide_eq_true_eq, Nat.beq_eq] at hch
    obtain ⟨hd, rfl, hv2, hv⟩ := hch
    obtain ⟨pl, nest, hv⟩ := m_any_inv m_fl_ok hv
    obtain ⟨⟨C, T, N⟩, hc, hN, hw⟩ := m_fchk_inv hv
    exact m_put_sound hx hb hown hts hK hD hP hS hl hc hN hw (m_nfin_inv hc hv2) hd h kk
  | getstatic idx =>
    simp only [m_ochk, Bool.and_eq_true, decide_eq_true_eq, Nat.beq_eq] at hch
    obtain ⟨hd, rfl, hv⟩ := hch
    obtain ⟨pl, nest, hv⟩ := m_any_inv m_gs_ok hv
    obtain ⟨c1, n1, d1, ty, vs, hs, hw⟩ := m_gchk_inv hv
    rcases hw with hw | hw
    · exact va_gets hx hb (hK.2.2 k c1 n1 d1 ty vs hs).1 hS hown (hts _ hw rfl) (fun _ h9 => h9) hd (kk _ _ _ _ h _ _ _ hP hS hl)
    · exact va_getsN hx hb (hK.2.2 k c1 n1 d1 ty vs hs).1 hS hown (va_Nw.use rfl (hK.2.1 _ hw rfl)) (fun _ h9 => h9) hd (kk _ _ _ _ h _ _ _ hP hS hl)
  | iaload =>
    simp only [m_ochk, Bool.and_eq_true, decide_eq_true_eq, Nat.beq_eq] at hch
    obtain ⟨hd, rfl⟩ := hch
    have h0 := m_pi_inv h
    clear h
    obtain ⟨i, S, rfl, h⟩ := h0
    have h0 := m_pa_inv h
    clear h
    obtain ⟨a, S, rfl, h⟩ := h0
    cases hs : m_sh[a]? with
    | some q0 =>
      replace h : (match m_sh[a]? with | some _ => m_arr 0 a fun n _ => m_in i n (κ (pc + 1) L (.int (g.1 a i.toNatClampNeg) :: S) g) | none => _) = some z := h
      rw [hs] at h
      obtain ⟨n, rs, hs2, h⟩ := m_arr_inv h
      obtain ⟨hin, h⟩ := m_in_inv h
      exact va_iald hx hb hK.1 hP a 0 (m_w_at hs2) rfl hin hd (kk _ _ _ _ h _ _ _ hP hS hl)
    | none =>
      exact m_iald_sound (f := fun x => κ (pc + 1) L (.int x :: S) g) hx hb hK hS hsc hs hd h (fun x hx2 => kk (pc + 1) L (.int x :: S) g hx2 _ _ _ hP hS hl)
  | caload =>
    simp only [m_ochk, Bool.and_eq_true, decide_eq_true_eq, Nat.beq_eq] at hch
    obtain ⟨hd, rfl⟩ := hch
    have h0 := m_pi_inv h
    clear h
    obtain ⟨i, S, rfl, h⟩ := h0
    have h0 := m_pa_inv h
    clear h
    obtain ⟨a, S, rfl, h⟩ := h0
    have h0 := m_stat_inv h
    clear h
    obtain ⟨j, c1, n1, d1, ty, vs, rfl, hs, h⟩ := h0
    cases ty with
    | char =>
      obtain ⟨hin, h⟩ := m_in_inv h
      exact va_tc hx hb (hK.2.2 j c1 n1 d1 _ vs hs).2 hS hin rfl hd (kk _ _ _ _ h _ _ _ hP hS hl)
    | _ => cases h
  | baload =>
    simp only [m_ochk, Bool.and_eq_true, decide_eq_true_eq, Nat.beq_eq] at hch
    obtain ⟨hd, rfl⟩ := hch
    have h0 := m_pi_inv h
    clear h
    obtain ⟨i, S, rfl, h⟩ := h0
    have h0 := m_pa_inv h
    clear h
    obtain ⟨a, S, rfl, h⟩ := h0
    obtain ⟨n, rs, hs2, h⟩ := m_arr_inv h
    obtain ⟨hin, h⟩ := m_in_inv h
    exact va_bald hx hb hK.1 hP a 1 (m_w_at hs2) rfl hin hd (kk _ _ _ _ h _ _ _ hP hS hl)
  | saload =>
    simp only [m_ochk, Bool.and_eq_true, decide_eq_true_eq, Nat.beq_eq] at hch
    obtain ⟨hd, rfl⟩ := hch
    have h0 := m_pi_inv h
    clear h
    obtain ⟨i, S, rfl, h⟩ := h0
    have h0 := m_pa_inv h
    clear h
    obtain ⟨a, S, rfl, h⟩ := h0
    obtain ⟨n, rs, hs2, h⟩ := m_arr_inv h
    obtain ⟨hin, h⟩ := m_in_inv h
    exact va_sald hx hb hK.1 hP a 2 (m_w_at hs2) rfl hin hd (kk _ _ _ _ h _ _ _ hP hS hl)
  | laload =>
    simp only [m_ochk, Bool.and_eq_true, decide_eq_true_eq, Nat.beq_eq] at hch
    obtain ⟨hd, rfl⟩ := hch
    have h0 := m_pi_inv h
    clear h
    obtain ⟨i, S, rfl, h⟩ := h0
    have h0 := m_pa_inv h
    clear h
    obtain ⟨a, S, rfl, h⟩ := h0
    obtain ⟨n, rs, hs2, h⟩ := m_arr_inv h
    obtain ⟨hin, h⟩ := m_in_inv h
    exact va_lald hx hb hK.1 hP a 3 (m_w_at hs2) rfl hin hd (kk _ _ _ _ h _ _ _ hP hS hl)
  | aaload =>
    simp only [m_ochk, Bool.and_eq_true, decide_eq_true_eq, Nat.beq_eq] at hch
    obtain ⟨hd, rfl⟩ := hch
    have h0 := m_pi_inv h
    clear h
    obtain ⟨i, S, rfl, h⟩ := h0
    have h0 := m_pa_inv h
    clear h
    obtain ⟨a, S, rfl, h⟩ := h0
    obtain ⟨n, rs, hs2, h⟩ := m_arr_inv h
    obtain ⟨hin, h⟩ := m_in_inv h
    obtain ⟨j, hr, h⟩ := m_sel_inv h
    refine va_aldq hx hb hK.1 hP a 4 (m_w_at hs2) rfl hin hd ?_
    show W p l e R s m args below meth c H locs cells slots Q (F0 m (pc + 1) ls (va_rf ((rs[i.toNatClampNeg]?).map ad) :: S.map (m_tr ad)))
    rw [hr]
    exact kk _ _ _ _ h _ _ _ hP hS hl
  | iastore =>
    simp only [m_ochk, Bool.and_eq_true, decide_eq_true_eq, Nat.beq_eq] at hch
    obtain ⟨hd, rfl⟩ := hch
    have h0 := m_pi_inv h
    clear h
    obtain ⟨x, S, rfl, h⟩ := h0
    have h0 := m_pi_inv h
    clear h
    obtain ⟨i, S, rfl, h⟩ := h0
    have h0 := m_pa_inv h
    clear h
    obtain ⟨a, S, rfl, h⟩ := h0
    obtain ⟨n, rs, hs2, h⟩ := m_arr_inv h
    obtain ⟨hin, h⟩ := m_in_inv h
    refine va_iast hx hb hK.1 hP (hD g) hS a 0 (m_w_at hs2) rfl hin hd (fun H1 locs1 hP1 hD1 hS1 => kk _ _ _ _ h _ _ _ ?_ hS1 hl)
    rw [← m_w_set hs2 m_s1_o.1 m_s1_o.2]
    simp only [m_e, m_s1_s]
    exact hP1
  | bastore =>
    simp only [m_ochk, Bool.and_eq_true, decide_eq_true_eq, Nat.beq_eq] at hch
    obtain ⟨hd, rfl⟩ := hch
    have h0 := m_pi_inv h
    clear h
    obtain ⟨x, S, rfl, h⟩ := h0
    have h0 := m_pi_inv h
    clear h
    obtain ⟨i, S, rfl, h⟩ := h0
    have h0 := m_pa_inv h
    clear h
    obtain ⟨a, S, rfl, h⟩ := h0
    obtain ⟨n, rs, hs2, h⟩ := m_arr_inv h
    obtain ⟨hin, h⟩ := m_in_inv h
    refine va_bast hx hb hK.1 hP (hD g) hS a 1 (m_w_at hs2) rfl hin hd (fun H1 locs1 hP1 hD1 hS1 => kk _ _ _ _ h _ _ _ ?_ hS1 hl)
    rw [← m_w_set hs2 m_s1_o.1 m_s1_o.2]
    simp only [m_e, m_s1_s]
    exact hP1
  | sastore =>
    simp only [m_ochk, Bool.and_eq_true, decide_eq_true_eq, Nat.beq_eq] at hch
    obtain ⟨hd, rfl⟩ := hch
    have h0 := m_pi_inv h
    clear h
    obtain ⟨x, S, rfl, h⟩ := h0
    have h0 := m_pi_inv h
    clear h
    obtain ⟨i, S, rfl, h⟩ := h0
    have h0 := m_pa_inv h
    clear h
    obtain ⟨a, S, rfl, h⟩ := h0
    obtain ⟨n, rs, hs2, h⟩ := m_arr_inv h
    obtain ⟨hin, h⟩ := m_in_inv h
    refine va_sast hx hb hK.1 hP (hD g) hS a 2 (m_w_at hs2) rfl hin hd (fun H1 locs1 hP1 hD1 hS1 => kk _ _ _ _ h _ _ _ ?_ hS1 hl)
    rw [← m_w_set hs2 m_s1_o.1 m_s1_o.2]
    simp only [m_e, m_s1_s]
    exact hP1
  | lastore =>
    simp only [m_ochk, Bool.and_eq_true, decide_eq_true_eq, Nat.beq_eq] at hch
    obtain ⟨hd, rfl⟩ := hch
    have h0 := m_pl_inv h
    clear h
    obtain ⟨x, S, rfl, h⟩ := h0
    have h0 := m_pi_inv h
    clear h
    obtain ⟨i, S, rfl, h⟩ := h0
    have h0 := m_pa_inv h
    clear h
    obtain ⟨a, S, rfl, h⟩ := h0
    obtain ⟨n, rs, hs2, h⟩ := m_arr_inv h
    obtain ⟨hin, h⟩ := m_in_inv h
    refine va_last hx hb hK.1 hP (hD g) hS a 3 (m_w_at hs2) rfl hin hd (fun H1 locs1 hP1 hD1 hS1 => kk _ _ _ _ h _ _ _ ?_ hS1 hl)
    rw [← m_w_set hs2 m_s2_o.1 m_s2_o.2]
    simp only [m_e, m_s2_s]
    exact hP1
  | arraylength =>
    simp only [m_ochk, Bool.and_eq_true, decide_eq_true_eq, Nat.beq_eq] at hch
    obtain ⟨hd, rfl⟩ := hch
    have h0 := m_pa_inv h
    clear h
    obtain ⟨a, S, rfl, h⟩ := h0
    exact m_alen_sound (f := fun x => κ (pc + 1) L (.int x :: S) g) hx hb hK hP hS hsc hd h (fun x hx2 => kk (pc + 1) L (.int x :: S) g hx2 _ _ _ hP hS hl)
  | _ => cases h
