/-! SOUND (4): the walk -/
set_option maxHeartbeats 4000000 in
theorem m_walk (l : Launch) : ∀ n, m_Wk l n := by
  intro n
  induction n with
  | zero =>
    intro sc d mm pc L S g r g2 h
    cases h
  | succ n IH =>
    intro sc d mm pc L S g r g2 h D cA ad A p e R s m args below meth c cells slots Q C hR H locs ls hP hS hl
    have C0 := C
    obtain ⟨hx, hb, hmx, hown, hts, hK, hD, hsc, hinj, hAD, hA0, hfr, hlo, hce, hsl, hops⟩ := C0
    unfold m_ex at h
    cases hf : m_fetch mm.2.2.2.2.2.2.2 pc with
    | none => rw [hf] at h; cases h
    | some o =>
    rw [hf] at h
    dsimp only at h
    obtain ⟨ho, rfl⟩ := m_fetch_inv hf
    have hch := hops o ho
    split at h
    · exact m_xs_sound hx hb hown hts hK hD hsc hch hP hS hl h (fun pc L S g h9 H locs ls hP hS hl => IH sc d mm pc L S g r g2 h9 D cA ad A p e R s m args below meth c cells slots Q C hR H locs ls hP hS hl)
    · next hk =>
      split at h
      · next hret =>
        cases h
        obtain ⟨pc, i, len, k, v, w, ts⟩ := o
        have hi := m_k_1 hk
        dsimp only at hi
        subst hi
        simp only [m_ochk, Bool.and_eq_true, decide_eq_true_eq, Nat.beq_eq] at hch
        obtain ⟨hd, rfl⟩ := hch
        exact hR _ H locs ls ho hd ⟨rfl, hret⟩ hP hS
      · cases h
    · next hk =>
      obtain ⟨pc, i, len, k, v, w, ts⟩ := o
      have hi := m_k_2 hk
      dsimp only at hi
      subst hi
      simp only [m_ochk, Bool.and_eq_true, decide_eq_true_eq, Nat.beq_eq] at hch
      obtain ⟨hd, rfl⟩ := hch
      split at h
      · split at h
        · next hret =>
          cases h
          exact hR _ H locs ls ho hd ⟨_, rfl, Or.inl hret⟩ hP hS
        · next hret =>
          split at h
          · next h1 =>
            cases h
            exact hR _ H locs ls ho hd ⟨_, rfl, Or.inr ⟨hret, h1⟩⟩ hP hS
          · cases h
        · cases h
      · cases h
    · next hk =>
      obtain ⟨pc, i, len, k, v, w, ts⟩ := o
      have hi := m_k_3 hk
      dsimp only at hi
      subst hi
      simp only [m_ochk, Bool.and_eq_true, decide_eq_true_eq, Nat.beq_eq] at hch
      obtain ⟨hd, rfl⟩ := hch
      split at h
      · split at h
        · next hret =>
          cases h
          exact hR _ H locs ls ho hd ⟨_, rfl, hret⟩ hP hS
        · cases h
      · cases h
    · next hk =>
      obtain ⟨pc, i, len, k, v, w, ts⟩ := o
      have hi := m_k_4 hk
      dsimp only at hi
      subst hi
      simp only [m_ochk, Bool.and_eq_true, decide_eq_true_eq, Nat.beq_eq] at hch
      obtain ⟨hd, rfl⟩ := hch
      split at h
      · split at h
        · next hret =>
          cases h
          exact hR _ H locs ls ho hd ⟨_, _, rfl, hret⟩ hP hS
        · cases h
      · cases h
    · next hk =>
      obtain ⟨pc, i, len, k, v, w, ts⟩ := o
      obtain ⟨idx, hi⟩ := m_k_5 hk
      dsimp only at hi
      subst hi
      simp only [m_ochk, Bool.and_eq_true, decide_eq_true_eq, Nat.beq_eq, Bool.not_eq_true'] at hch
      obtain ⟨hd, rfl, h1, h2, h3⟩ := hch
      exact m_call_sound (v := true) IH C hd h3 ⟨h1, h2⟩ hP hS hl h (fun S g h9 H locs hP hS => IH sc d mm _ L S g r g2 h9 D cA ad A p e R s m args below meth c cells slots Q C hR H locs ls hP hS hl)
    · next h0 h1 h2 h3 h4 h5 =>
      obtain ⟨pc, i, len, k, v, w, ts⟩ := o
      obtain ⟨idx, hi⟩ := m_k_6 rfl h0 h1 h2 h3 h4 h5
      dsimp only at hi
      subst hi
      simp only [m_ochk, Bool.and_eq_true, Bool.or_eq_true, decide_eq_true_eq, Nat.beq_eq] at hch
      obtain ⟨hd, rfl, h6, h7⟩ := hch
      refine m_call_sound (v := false) IH C hd h7 ?_ hP hS hl h (fun S g h9 H locs hP hS => IH sc d mm _ L S g r g2 h9 D cA ad A p e R s m args below meth c cells slots Q C hR H locs ls hP hS hl)
      rcases h6 with h6 | h6
      · exact Or.inl h6
      · exact Or.inr h6
