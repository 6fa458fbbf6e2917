set_option maxHeartbeats 4000000 in
set_option maxRecDepth 100000 in
theorem b_xs_sound {β : Type} {p : Program} {l : Launch} {e : Env} {R : Room} {s : State} {m : MethodId} {args : Array Value} {below : List Frame} {meth : Method} {c : Code} {H : Heap} {locs : List Loc} {Q : State → Prop} {ls : Array Slot} {D : va_G} {cA : Nat → ClassId} {b0 h0 s0 N2 S2 : Nat} {oc : Nat} {cc : ByteArray} {maxL : Nat} {o : mO} {L S : List Value} {hp : List bE} {κ : Nat → List Value → List Value → List bE → Option β} {z : β}
    (hx : p.tables.exec = Jvm.exec) (hb : c.code = cc) (hown : s.vm.findClass (m_own oc) = some m.cls) (hts : ∀ w ∈ lw_tbl, goodWord w = true → w.before args s = true) (hK : b_K D cA s) (hnm : ∀ idx, o.2.1 = .putfield idx → meth.name = "<init>")
    (hch : b_ochk oc cc maxL o = true) (hg : ∀ pc L S hp1, κ pc L S hp1 = some z → hp1.length ≤ N2 ∧ b_sl hp1 ≤ S2) (hh0 : h0 ≤ hp.length) (hs0 : s0 ≤ b_sl hp) (hN : N2 - h0 ≤ R.cells) (hS2 : S2 - s0 ≤ R.slots) (hsh : s.heap.size = b0 + h0)
    (hP : va_P D vwCl (b_w (b_ad b0) cA hp) H) (hS : va_S (fun q => b0 ≤ q) s.heap H locs) (hl : m_lv (b_ad b0) ls maxL L) (h : b_xs o L S hp κ = some z)
    (kk : ∀ (pc : Nat) (L : List Value) (S : List Value) (hp1 : List bE), κ pc L S hp1 = some z → h0 ≤ hp1.length → s0 ≤ b_sl hp1 → ∀ (H : Heap) (locs : List Loc) (ls : Array Slot), va_P D vwCl (b_w (b_ad b0) cA hp1) H → va_S (fun q => b0 ≤ q) s.heap H locs → m_lv (b_ad b0) ls maxL L → W p l e R s m args below meth c H locs (hp1.length - h0) (b_sl hp1 - s0) Q (F0 m pc ls (S.map (m_tr (b_ad b0))))) :
    W p l e R s m args below meth c H locs (hp.length - h0) (b_sl hp - s0) Q (F0 m o.1 ls (S.map (m_tr (b_ad b0)))) := by
  obtain ⟨pc, i, len, k, v, w, ts⟩ := o
  show W p l e R s m args below meth c H locs (hp.length - h0) (b_sl hp - s0) Q (F0 m pc ls (S.map (m_tr (b_ad b0))))
  have ht : ∀ w ∈ m_gt, w.before args s = true := fun w h9 => hts w (m_gt_in h9).1 (m_gt_in h9).2
  have hA : ∀ q, s.heap.size ≤ q → b0 ≤ q := fun q hq => by omega
  cases i with
  | iconst n =>
    simp only [b_ochk, Bool.and_eq_true, decide_eq_true_eq, Nat.beq_eq] at hch
    obtain ⟨hd, rfl, hv⟩ := hch
    exact lv_iconst hx hb hd hv (kk _ _ _ _ h hh0 hs0 _ _ _ hP hS hl)
  | bipush n =>
    simp only [b_ochk, Bool.and_eq_true, decide_eq_true_eq, Nat.beq_eq] at hch
    obtain ⟨hd, rfl, hv⟩ := hch
    exact lv_bipush hx hb hd hv (kk _ _ _ _ h hh0 hs0 _ _ _ hP hS hl)
  | sipush n =>
    simp only [b_ochk, Bool.and_eq_true, decide_eq_true_eq, Nat.beq_eq] at hch
    obtain ⟨hd, rfl, hv⟩ := hch
    exact lv_sipush hx hb hd hv (kk _ _ _ _ h hh0 hs0 _ _ _ hP hS hl)
  | goto off =>
    simp only [b_ochk, Bool.and_eq_true, decide_eq_true_eq, Nat.beq_eq] at hch
    obtain ⟨hd, rfl, hv⟩ := hch
    exact lv_goto hx hb hd hv (kk _ _ _ _ h hh0 hs0 _ _ _ hP hS hl)
  | aload_n n =>
    simp only [b_ochk, Bool.and_eq_true, decide_eq_true_eq, Nat.beq_eq] at hch
    obtain ⟨hd, rfl, hv⟩ := hch
    obtain ⟨x, hk, h⟩ := m_qa_inv h
    exact lv_aload_n hx hb hd hv (hl.at hk (fun e => by cases e)) (kk _ _ _ _ h hh0 hs0 _ _ _ hP hS hl)
  | iload_n n =>
    simp only [b_ochk, Bool.and_eq_true, decide_eq_true_eq, Nat.beq_eq] at hch
    obtain ⟨hd, rfl, hv⟩ := hch
    obtain ⟨x, hk, h⟩ := m_qi_inv h
    exact lv_iload_n hx hb hd hv (hl.at hk (fun e => by cases e)) (kk _ _ _ _ h hh0 hs0 _ _ _ hP hS hl)
  | iinc n q =>
    simp only [b_ochk, Bool.and_eq_true, decide_eq_true_eq, Nat.beq_eq] at hch
    obtain ⟨hd, rfl, rfl, rfl, hn⟩ := hch
    obtain ⟨x, hk, h⟩ := m_qi_inv h
    obtain ⟨j, hj⟩ := List.getElem?_of_mem (m_prs_in (ad := b_ad b0) hk (fun e => by cases e))
    exact lv_iinc hx hb hd hl.has (k := j) hj rfl hn rfl (fun ls2 hl2 => kk _ _ _ _ h hh0 hs0 _ _ _ hP hS (hl.st1 (x := .int _) hl2))
  | istore_n n =>
    simp only [b_ochk, Bool.and_eq_true, decide_eq_true_eq, Nat.beq_eq] at hch
    obtain ⟨hd, rfl, hv, hn⟩ := hch
    have h1 := m_pi_inv h
    clear h
    obtain ⟨x, S, rfl, h⟩ := h1
    exact lv_istore_n hx hb hd hv hl.has hn rfl (fun ls2 hl2 => kk _ _ _ _ h hh0 hs0 _ _ _ hP hS (hl.st1 hl2))
  | astore_n n =>
    simp only [b_ochk, Bool.and_eq_true, decide_eq_true_eq, Nat.beq_eq] at hch
    obtain ⟨hd, rfl, hv, hn⟩ := hch
    have h1 := m_pa_inv h
    clear h
    obtain ⟨x, S, rfl, h⟩ := h1
    exact lv_astore_n hx hb hd hv hl.has hn rfl (fun ls2 hl2 => kk _ _ _ _ h hh0 hs0 _ _ _ hP hS (hl.st1 hl2))
  | dup =>
    simp only [b_ochk, Bool.and_eq_true, decide_eq_true_eq, Nat.beq_eq] at hch
    obtain ⟨hd, rfl⟩ := hch
    cases S with
    | nil => cases h
    | cons x t =>
      replace h : (match x.category with | 1 => κ (pc + 1) L (x :: x :: t) hp | _ => none) = some z := h
      rcases lv_cat x with hc | hc
      · rw [hc] at h
        exact lv_dup hx hb hd ((m_tr_cat x).trans hc) (kk _ _ _ _ h hh0 hs0 _ _ _ hP hS hl)
      · rw [hc] at h
        cases h
  | if_icmp cnd off =>
    simp only [b_ochk, Bool.and_eq_true, decide_eq_true_eq, Nat.beq_eq] at hch
    obtain ⟨hd, rfl, hto⟩ := hch
    cases cnd with
    | ge =>
      have h1 := m_pi_inv h
      clear h
      obtain ⟨y, S, rfl, h⟩ := h1
      have h1 := m_pi_inv h
      clear h
      obtain ⟨x, S, rfl, h⟩ := h1
      exact lv_icmp_ge hx hb hd hto (fun hc => by rw [if_neg (Int32.not_lt.mpr hc)] at h; exact kk _ _ _ _ h hh0 hs0 _ _ _ hP hS hl) (fun hc => by rw [if_pos (Int32.not_le.mp hc)] at h; exact kk _ _ _ _ h hh0 hs0 _ _ _ hP hS hl)
    | _ => cases h
  | new idx =>
    simp only [b_ochk, Bool.and_eq_true, decide_eq_true_eq, Nat.beq_eq] at hch
    obtain ⟨hd, rfl, hv⟩ := hch
    split at hv
    · next C T N p1 p2 hcl hpl =>
      simp only [Bool.and_eq_true, decide_eq_true_eq] at hv
      obtain ⟨h1, h2, h3⟩ := hv
      have hok := m_cl_ok _ _ hcl
      have hdl : (b_def k).length = N ∧ k < 13 := b_def_len hcl
      have hgr := hg _ _ _ _ h
      rw [List.length_append, List.length_singleton, b_sl_app] at hgr
      have hbz : b_sz (0, k, b_def k) = N := hdl.1
      rw [hbz] at hgr
      refine va_new hx hb ht (fun w h9 => m_gt_of (hok.1 w h9).1 (hok.1 w h9).2) (m_tyOf k) hok.2.1 hown (hts _ (m_wd_in h1) rfl) (hts _ (m_wd_in h2) rfl) (hts _ (m_wd_in h3) rfl) hK.1 hP b_w_D hS hA hcl (fs := b_def k) (fun j hj => b_def_ok k hdl.2 j (by rw [hdl.1]; exact hj)) (show hp.length - h0 + 1 ≤ R.cells by omega) (show b_sl hp - s0 + N ≤ R.slots by omega) hd (fun q H1 hP1 hD1 hS1 => W_sz (fun hz => ?_))
      obtain rfl := b_q hP1 hD1 (by omega)
      have h5 := kk _ _ _ _ h (by rw [List.length_append]; omega) (by rw [b_sl_app]; omega) H1 locs ls (by
        rw [b_w_app]
        have e9 : b_e (b_ad b0) cA (0, k, b_def k) = .inr (k, b_def k) := by
          show (Sum.inr (k, (b_def k).map (m_tr (b_ad b0))) : va_E) = _
          rw [b_def_tr]
        rw [e9]
        exact hP1) hS1 hl
      rw [List.length_append, List.length_singleton, b_sl_app, hbz, show hp.length + 1 - h0 = hp.length - h0 + 1 by omega, show b_sl hp + N - s0 = b_sl hp - s0 + N by omega] at h5
      exact h5
    · cases hv
  | newarray t =>
    simp only [b_ochk, Bool.and_eq_true, decide_eq_true_eq, Nat.beq_eq] at hch
    obtain ⟨hd, rfl, rfl, hk4, hv⟩ := hch
    have h1 := m_pi_inv h
    clear h
    obtain ⟨n, S, rfl, h⟩ := h1
    split at h
    · cases h
    · next hn =>
      split at hv
      · next p1 hp1 =>
        have hw := of_decide_eq_true hv
        have hgr := hg _ _ _ _ h
        rw [List.length_append, List.length_singleton, b_sl_app] at hgr
        have hbz : b_sz (k + 1, n.toNatClampNeg, []) = n.toNatClampNeg := rfl
        rw [hbz] at hgr
        have hnn : ¬ n < 0 := fun q => hn (Or.inl q)
        have hn2 : n.toNatClampNeg ≤ 1000 := Nat.not_lt.mp (fun q => hn (Or.inr q))
        have go : ∀ (ty : FieldType) (a0 : vp_A), newarray.typeOf (b_aty k) = ty → (∀ cA : ClassId, vp_cell cA a0 = arrV cA n.toNatClampNeg (fun _ => defaultValue ty)) → componentBytes ty ≤ 8 → b_e (b_ad b0) cA (k + 1, n.toNatClampNeg, []) = .inl (cA k, a0) → (∀ cA2 : ClassId, va_RA s cA2 ty → cA2 = cA k) → W p l e R s m args below meth c H locs (hp.length - h0) (b_sl hp - s0) Q (F0 m pc ls (.int n :: S.map (m_tr (b_ad b0)))) := by
          intro ty a0 hty ha hcb hbe hcc
          refine va_newa hx hb (hts _ (m_wd_in hw) rfl) hty hK.1 hP b_w_D hS hA ha hnn rfl (Nat.le_trans (Nat.mul_le_mul hn2 hcb) (by decide)) (by omega) (by omega) hd (fun q cA2 H1 hK1 hP1 hD1 hS1 => W_sz (fun hz => ?_))
          obtain rfl := hcc cA2 (hK1.2 5 _ rfl).2
          obtain rfl := b_q hP1 hD1 (by omega)
          have h5 := kk _ _ _ _ h (by rw [List.length_append]; omega) (by rw [b_sl_app]; omega) H1 locs ls (by
            rw [b_w_app, hbe]
            exact hP1) hS1 hl
          rw [List.length_append, List.length_singleton, b_sl_app, hbz, show hp.length + 1 - h0 = hp.length - h0 + 1 by omega, show b_sl hp + n.toNatClampNeg - s0 = b_sl hp - s0 + n.toNatClampNeg by omega] at h5
          exact h5
        match k, hk4 with
        | 0, _ => exact go .int (n.toNatClampNeg, .inl (b_i [])) rfl (fun _ => rfl) (by decide) rfl (fun cA2 h9 => Option.some.inj (Eq.trans (Eq.symm h9) (hK.1.2 0 _ rfl).2))
        | 1, _ => exact go .byte (n.toNatClampNeg, .inl (b_i [])) rfl (fun _ => rfl) (by decide) rfl (fun cA2 h9 => Option.some.inj (Eq.trans (Eq.symm h9) (hK.1.2 1 _ rfl).2))
        | 2, _ => exact go .short (n.toNatClampNeg, .inl (b_i [])) rfl (fun _ => rfl) (by decide) rfl (fun cA2 h9 => Option.some.inj (Eq.trans (Eq.symm h9) (hK.1.2 2 _ rfl).2))
        | 3, _ => exact go .long (n.toNatClampNeg, .inr (.inl (b_l []))) rfl (fun _ => rfl) (by decide) rfl (fun cA2 h9 => Option.some.inj (Eq.trans (Eq.symm h9) (hK.1.2 3 _ rfl).2))
      · cases hv
  | anewarray idx =>
    simp only [b_ochk, Bool.and_eq_true, decide_eq_true_eq, Nat.beq_eq] at hch
    obtain ⟨hd, rfl, hw⟩ := hch
    have h1 := m_pi_inv h
    clear h
    obtain ⟨n, S, rfl, h⟩ := h1
    split at h
    · cases h
    · next hn =>
      have hgr := hg _ _ _ _ h
      rw [List.length_append, List.length_singleton, b_sl_app] at hgr
      have hbz : b_sz (5, n.toNatClampNeg, []) = n.toNatClampNeg := rfl
      rw [hbz] at hgr
      have hnn : ¬ n < 0 := fun q => hn (Or.inl q)
      have hn2 : n.toNatClampNeg ≤ 1000 := Nat.not_lt.mp (fun q => hn (Or.inr q))
      refine va_newq hx hb hown (hts _ (m_wd_in hw) rfl) hK.2.2 hK.1 hP b_w_D hS hA hnn rfl (by omega) (by omega) (by omega) hd (fun q cA2 H1 hK1 hP1 hD1 hS1 => W_sz (fun hz => ?_))
      obtain ⟨kA, comp, f2, f3, f4, f1⟩ := (hK.1.2 4 _ rfl).2
      obtain ⟨kA2, comp2, g2, g3, g4, g1⟩ := (hK1.2 5 _ rfl).2
      obtain rfl : cA2 = cA 4 := Option.some.inj (g1.symm.trans f1)
      obtain rfl := b_q hP1 hD1 (by omega)
      have h5 := kk _ _ _ _ h (by rw [List.length_append]; omega) (by rw [b_sl_app]; omega) H1 locs ls (by
        rw [b_w_app]
        exact hP1) hS1 hl
      rw [List.length_append, List.length_singleton, b_sl_app, hbz, show hp.length + 1 - h0 = hp.length - h0 + 1 by omega, show b_sl hp + n.toNatClampNeg - s0 = b_sl hp - s0 + n.toNatClampNeg by omega] at h5
      exact h5
  | putfield idx =>
    have hin := hnm idx rfl
    simp only [b_ochk, Bool.and_eq_true, decide_eq_true_eq, Nat.beq_eq] at hch
    obtain ⟨hd, rfl, hv⟩ := hch
    split at hv
    · next C T N hcl =>
      simp only [Bool.and_eq_true, decide_eq_true_eq] at hv
      obtain ⟨hkN, hdecl, hw⟩ := hv
      have hok := m_cl_ok _ _ hcl
      cases S with
      | nil => cases h
      | cons x t =>
        have h1 := m_pa_inv h
        clear h
        obtain ⟨a, t, rfl, h⟩ := h1
        split at h
        · next c1 fs hs =>
          split at h
          · next hc =>
            obtain ⟨rfl, hlt, hft⟩ := hc
            have hf := b_fit_ok (ad := b_ad b0) hft
            have hgo : ∀ (H1 : Heap) (locs1 : List Loc), va_P D vwCl ((b_w (b_ad b0) cA hp).set a (b_ad b0 a, .inr (k / 100, (fs.map (m_tr (b_ad b0))).set (k % 100) (m_tr (b_ad b0) x)))) H1 → va_D (fun q => b0 ≤ q) ((b_w (b_ad b0) cA hp).set a (b_ad b0 a, .inr (k / 100, (fs.map (m_tr (b_ad b0))).set (k % 100) (m_tr (b_ad b0) x)))) → va_S (fun q => b0 ≤ q) s.heap H1 locs1 → W p l e R s m args below meth c H1 locs1 (hp.length - h0) (b_sl hp - s0) Q (F0 m (pc + 3) ls (t.map (m_tr (b_ad b0)))) := by
              intro H1 locs1 hP1 hD1 hS1
              have hsl := b_sl_set (q2 := (0, k / 100, fs.set (k % 100) x)) hs (by simp [b_sz])
              have h5 := kk _ _ _ _ h (by rw [List.length_set]; exact hh0) (by rw [hsl]; exact hs0) H1 locs1 ls (by
                rw [← b_w_set hs]
                have e9 : b_e (b_ad b0) cA (0, k / 100, fs.set (k % 100) x) = .inr (k / 100, (fs.map (m_tr (b_ad b0))).set (k % 100) (m_tr (b_ad b0) x)) := by
                  show (Sum.inr (k / 100, (fs.set (k % 100) x).map (m_tr (b_ad b0))) : va_E) = _
                  rw [List.map_set]
                rw [e9]
                exact hP1) hS1 hl
              rw [List.length_set, hsl] at h5
              exact h5
            cases hfin : (T (k % 100)).2.2.2 with
            | true => exact va_putF hx hb ht (fun w h9 => m_gt_of (hok.1 w h9).1 (hok.1 w h9).2) (m_tyOf (k / 100)) hok.2.1 hok.2.2 hown hK.1 hP b_w_D hS a (b_w_at hs) hcl (k % 100) hkN (hts _ (m_wd_in hw) rfl) (fun _ h9 => h9) hfin hin hdecl (hok.2.1 _ hkN) hf.1 hf.2 (by rw [List.length_map]; exact hlt) hd hgo
            | false => exact va_put hx hb ht (fun w h9 => m_gt_of (hok.1 w h9).1 (hok.1 w h9).2) (m_tyOf (k / 100)) hok.2.1 hok.2.2 hown hK.1 hP b_w_D hS a (b_w_at hs) hcl (k % 100) hkN (hts _ (m_wd_in hw) rfl) (fun _ h9 => h9) hfin (hok.2.1 _ hkN) hf.1 hf.2 (by rw [List.length_map]; exact hlt) hd hgo
          · cases h
        · cases h
    · cases hv
  | getfield idx =>
    simp only [b_ochk, Bool.and_eq_true, decide_eq_true_eq, Nat.beq_eq] at hch
    obtain ⟨hd, rfl, hv⟩ := hch
    split at hv
    · next C T N hcl =>
      simp only [Bool.and_eq_true, decide_eq_true_eq] at hv
      obtain ⟨hkN, hw⟩ := hv
      have hok := m_cl_ok _ _ hcl
      have h1 := m_pa_inv h
      clear h
      obtain ⟨a, S, rfl, h⟩ := h1
      split at h
      · next c1 fs hs =>
        split at h
        · next hc =>
          subst hc
          split at h
          · next x hfx =>
            exact va_get hx hb ht (fun w h9 => m_gt_of (hok.1 w h9).1 (hok.1 w h9).2) hown hK.1 hP a (b_w_at hs) hcl (k % 100) hkN (hts _ (m_wd_in hw) rfl) (fun _ h9 => h9) (v := m_tr (b_ad b0) x) (by rw [List.getElem?_map, hfx]; rfl) hd (kk _ _ _ _ h hh0 hs0 _ _ _ hP hS hl)
          · cases h
        · cases h
      · cases h
    · cases hv
  | iastore =>
    simp only [b_ochk, Bool.and_eq_true, decide_eq_true_eq, Nat.beq_eq] at hch
    obtain ⟨hd, rfl⟩ := hch
    have h1 := m_pi_inv h
    clear h
    obtain ⟨x, S, rfl, h⟩ := h1
    have h1 := m_pi_inv h
    clear h
    obtain ⟨i, S, rfl, h⟩ := h1
    have h1 := m_pa_inv h
    clear h
    obtain ⟨a, S, rfl, h⟩ := h1
    split at h
    · next n vs hs =>
      split at h
      · cases h
      · next hin =>
        have hsl := b_sl_set (q2 := (1, n, b_set (.int 0) vs i.toNatClampNeg (.int x))) hs rfl
        refine va_iast hx hb hK.1 hP b_w_D hS a 0 (b_w_at hs) rfl hin hd (fun H1 locs1 hP1 hD1 hS1 => ?_)
        have h5 := kk _ _ _ _ h (by rw [List.length_set]; exact hh0) (by rw [hsl]; exact hs0) H1 locs1 ls (by
          rw [← b_w_set hs]
          have e9 : b_e (b_ad b0) cA (1, n, b_set (.int 0) vs i.toNatClampNeg (.int x)) = .inl (cA 0, n, .inl (upd (b_i vs) i.toNatClampNeg x)) := by
            show (Sum.inl (cA 0, n, Sum.inl (b_i (b_set (.int 0) vs i.toNatClampNeg (.int x)))) : va_E) = _
            rw [b_i_set]
          rw [e9]
          exact hP1) hS1 hl
        rw [List.length_set, hsl] at h5
        exact h5
    · cases h
  | aastore =>
    simp only [b_ochk, Bool.and_eq_true, decide_eq_true_eq, Nat.beq_eq] at hch
    obtain ⟨hd, rfl⟩ := hch
    have h1 := m_pa_inv h
    clear h
    obtain ⟨x, S, rfl, h⟩ := h1
    have h1 := m_pi_inv h
    clear h
    obtain ⟨i, S, rfl, h⟩ := h1
    have h1 := m_pa_inv h
    clear h
    obtain ⟨a, S, rfl, h⟩ := h1
    split at h
    · next n vs fs hs hs2 =>
      split at h
      · cases h
      · next hin =>
        have hsl := b_sl_set (q2 := (5, n, b_set .null vs i.toNatClampNeg (.ref x))) hs rfl
        refine va_astq hx hb hK.1 hP b_w_D hS a 4 x 7 (r := (RX7, TX7, 4)) (b_w_at hs) rfl (b_w_at hs2) rfl hin hd (fun H1 locs1 hP1 hD1 hS1 => ?_)
        have h5 := kk _ _ _ _ h (by rw [List.length_set]; exact hh0) (by rw [hsl]; exact hs0) H1 locs1 ls (by
          rw [← b_w_set hs]
          have e9 : b_e (b_ad b0) cA (5, n, b_set .null vs i.toNatClampNeg (.ref x)) = .inl (cA 4, n, .inr (.inr (.inr (.inr (va_up (b_r (b_ad b0) vs) i.toNatClampNeg (some (b_ad b0 x))))))) := by
            show (Sum.inl (cA 4, n, Sum.inr (Sum.inr (Sum.inr (Sum.inr (b_r (b_ad b0) (b_set .null vs i.toNatClampNeg (.ref x))))))) : va_E) = _
            rw [b_r_set]
          rw [e9]
          exact hP1) hS1 hl
        rw [List.length_set, hsl] at h5
        exact h5
    · cases h
  | _ => cases h
