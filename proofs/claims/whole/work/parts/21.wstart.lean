/-! The law's start: the environment, the two constructors, then the small machine from pc 16 -/
theorem e_cls_ok : ((vwCl.zip b_cls).all fun p => decide (m_wd p.2.1 = some (.instantiable p.1.1 p.1.2.2))) = true := by decide +kernel
theorem e_inst {k : Nat} {q : vw_C} (h : vwCl[k]? = some q) : (Jvm.Cond.instantiable q.1 q.2.2) ∈ lw_tbl := by
  have hk : k < 13 := (b_def_len h).2
  obtain ⟨r, hr⟩ : ∃ r, b_cls[k]? = some r := ⟨_, List.getElem?_eq_getElem (show k < b_cls.length from hk)⟩
  have h3 : (vwCl.zip b_cls)[k]? = some (q, r) := by
    rw [List.getElem?_zip_eq_some]
    exact ⟨h, hr⟩
  exact m_wd_in (of_decide_eq_true (List.all_eq_true.mp e_cls_ok _ (List.mem_of_getElem? h3)))
theorem e_arr_ok : m_wd (b_arr.getD 0 0) = some (.arrayClass .int) ∧ m_wd (b_arr.getD 1 0) = some (.arrayClass .byte) ∧ m_wd (b_arr.getD 2 0) = some (.arrayClass .short) ∧ m_wd (b_arr.getD 3 0) = some (.arrayClass .long) := by decide +kernel
theorem e_K {s : State} {args : Array Value} (hts : ∀ w ∈ lw_tbl, w.before args s = true) : ∃ (D : va_G) (cA : Nat → ClassId), b_K D cA s := by
  have hc : ∀ k : Nat, ∃ pr : ClassId × (Nat → Nat), ∀ q, vwCl[k]? = some q → u_Kn s q.1 q.2.1 q.2.2 pr.1 pr.2 := by
    intro k
    cases hq : vwCl[k]? with
    | none => exact ⟨(0, fun _ => 0), fun q h => by cases h⟩
    | some q =>
      obtain ⟨cC, iS, h⟩ := u_known (C := q.1) (T := q.2.1) (N := q.2.2) (n := q.2.2) hts (fun w hw => ((m_cl_ok k q hq).1 w hw).1) (hts _ (e_inst hq))
      exact ⟨(cC, iS), fun q2 h2 => by cases h2; exact h⟩
  obtain ⟨c0, k0, p0, f0, g0', i0⟩ := Cond.arrayClass_spec (hts _ (m_wd_in e_arr_ok.1))
  obtain ⟨c1, k1, p1, f1, g1, i1⟩ := Cond.arrayClass_spec (hts _ (m_wd_in e_arr_ok.2.1))
  obtain ⟨c2, k2, p2, f2, g2, i2⟩ := Cond.arrayClass_spec (hts _ (m_wd_in e_arr_ok.2.2.1))
  obtain ⟨c3, k3, p3, f3, g3, i3⟩ := Cond.arrayClass_spec (hts _ (m_wd_in e_arr_ok.2.2.2))
  have hov := hts _ (m_wd_in b_oi_ok.2.2)
  obtain ⟨p4, c4, k4, f4, -, g4, i4, n4⟩ := Cond.arrayOver_spec hov
  refine ⟨(fun k => (Classical.choose (hc k)).1, fun k => (Classical.choose (hc k)).2), fun t => match t with
    | 0 => c0
    | 1 => c1
    | 2 => c2
    | 3 => c3
    | _ => c4, ⟨fun k q hq => Classical.choose_spec (hc k) q hq, fun k q hq => ?_⟩, fun w hw hn => ?_, va_AO.of hov⟩
  · match k, hq with
    | 0, hq => cases hq; exact ⟨fun n z => ⟨fun k h => (by cases h), k0, g0', p0, i0⟩, f0⟩
    | 1, hq => cases hq; exact ⟨fun n z => ⟨fun k h => (by cases h), k1, g1, p1, i1⟩, f1⟩
    | 2, hq => cases hq; exact ⟨fun n z => ⟨fun k h => (by cases h), k2, g2, p2, i2⟩, f2⟩
    | 3, hq => cases hq; exact ⟨fun n z => ⟨fun k h => (by cases h), k3, g3, p3, i3⟩, f3⟩
    | 4, hq => cases hq; exact ⟨fun n z => ⟨fun k h => (by cases h), k4, g4, p4, i4⟩, k4, p4, g4, i4, f4, n4⟩
    | n + 5, hq => cases hq
  · have h1 := hts w hw
    cases w <;> first | (simp [m_isN] at hn; done) | exact va_Nw.of rfl h1
abbrev e_fl : List Jvm.Cond := flatC (Jvm.Cond.and given_1 narrow_1)
def e_sck (q : Nat × String × String × FieldType × List Int32) : Bool := match q with
  | (c, n, d, ty, vs) => decide ((Jvm.Cond.arrayOf (.static (m_own c) n d) ty) ∈ e_fl) && (decide ((Jvm.Cond.eq (.length (.static (m_own c) n d)) (.int (Int32.ofNat vs.length))) ∈ e_fl) && ((List.range vs.length).all (fun j => decide ((Jvm.Cond.eq (.elem (.static (m_own c) n d) (.int (Int32.ofNat j))) (.int (vs.getD j 0))) ∈ e_fl)) && (decide ((Jvm.Cond.laysStatic (m_own c) n d) ∈ lw_tbl) && (decide ((Jvm.Cond.initialized (m_own c)) ∈ lw_tbl) && decide (vs.length < 2 ^ 31)))))
theorem e_sa_ok : m_sa.all e_sck = true := by decide +kernel
theorem e_S {s : State} {args : Array Value} (hts : ∀ w ∈ lw_tbl, w.before args s = true) (hgv : (Jvm.Cond.and given_1 narrow_1).before args s = true) : ∃ st : Nat → Nat, ∀ (j c : Nat) (n d : String) (ty : FieldType) (vs : List Int32), m_sa[j]? = some (c, n, d, ty, vs) → va_Z (m_own c) n d (.ref (st j)) (fun q => s.heap.size ≤ q) s s.heap ∧ va_T ty (st j) vs.length (fun k => .int (vs.getD k 0)) (fun q => s.heap.size ≤ q) s s.heap := by
  have hs := flat_of_before _ hgv
  have hA : ∀ a : Nat, a < s.heap.size → ¬ (fun q : Nat => s.heap.size ≤ q) a := fun a h => Nat.not_le.mpr h
  have key : ∀ j : Nat, ∃ t : Nat, ∀ (c : Nat) (n d : String) (ty : FieldType) (vs : List Int32), m_sa[j]? = some (c, n, d, ty, vs) → va_Z (m_own c) n d (.ref t) (fun q => s.heap.size ≤ q) s s.heap ∧ va_T ty t vs.length (fun k => .int (vs.getD k 0)) (fun q => s.heap.size ≤ q) s s.heap := by
    intro j
    cases hj : m_sa[j]? with
    | none => exact ⟨0, fun c n d ty vs h => by cases h⟩
    | some q =>
      obtain ⟨c, n, d, ty, vs⟩ := q
      have h := List.all_eq_true.mp e_sa_ok _ (List.mem_of_getElem? hj)
      unfold e_sck at h
      dsimp only at h
      simp only [Bool.and_eq_true, decide_eq_true_eq] at h
      obtain ⟨h1, h2, h3, h4, h5, h6⟩ := h
      obtain ⟨t, ht, hT⟩ := va_Tof (f := fun k => .int (vs.getD k 0)) h6 (hs _ h1) (va_eqt (hs _ h2)) (fun j hj => va_eqt (hs _ (of_decide_eq_true (List.all_eq_true.mp h3 j (List.mem_range.mpr hj))))) hA
      exact ⟨t, fun c2 n2 d2 ty2 vs2 h9 => by cases h9; exact ⟨va_Zof (hts _ h4) (hts _ h5) ht hA, hT⟩⟩
  exact ⟨fun j => Classical.choose (key j), fun j => Classical.choose_spec (key j)⟩
theorem e_d0 : decode code 0 = .ok (.new 7, 3) := by decide +kernel
theorem e_d3 : decode code 3 = .ok (.dup, 1) := by decide +kernel
theorem e_d4 : decode code 4 = .ok (.invokespecial 9, 3) := by decide +kernel
theorem e_d7 : decode code 7 = .ok (.astore_n 1, 1) := by decide +kernel
theorem e_d8 : decode code 8 = .ok (.new 10, 3) := by decide +kernel
theorem e_d11 : decode code 11 = .ok (.dup, 1) := by decide +kernel
theorem e_d12 : decode code 12 = .ok (.invokespecial 12, 3) := by decide +kernel
theorem e_d15 : decode code 15 = .ok (.astore_n 2, 1) := by decide +kernel
theorem e_w1 : m_wd 1017 = some (.classLink R_law 7 RX11) ∧ m_wd 5120 = some (.classLink R_law 10 RX12) ∧ m_wd 1019 = some (.methodLink R_law 9 yX11_init) ∧ m_wd 5122 = some (.methodLink R_law 12 yX12_init) ∧ m_wd 1001 = some (.initialized RX11) ∧ m_wd 1013 = some (.initialized RX12) := by decide +kernel
theorem e_ops : ∀ o ∈ mo_L_law, m_ochk 13 cL_law 4 o = true := by
  intro o ho
  unfold mo_L_law at ho
  simp only [List.mem_append] at ho
  rcases ho with h | h | h | h | h | h | h | h | h | h | h | h
  · exact List.all_eq_true.mp m_L0_ok _ h
  · exact List.all_eq_true.mp m_L1_ok _ h
  · exact List.all_eq_true.mp m_L2_ok _ h
  · exact List.all_eq_true.mp m_L3_ok _ h
  · exact List.all_eq_true.mp m_L4_ok _ h
  · exact List.all_eq_true.mp m_L5_ok _ h
  · exact List.all_eq_true.mp m_L6_ok _ h
  · exact List.all_eq_true.mp m_L7_ok _ h
  · exact List.all_eq_true.mp m_L8_ok _ h
  · exact List.all_eq_true.mp m_L9_ok _ h
  · exact List.all_eq_true.mp m_L10_ok _ h
  · exact List.all_eq_true.mp m_L11_ok _ h
theorem e_ctor {k : Nat} {mm : mM} (h : b_mt[k]? = some mm) : b_Ok mm := b_mchk_inv (List.all_eq_true.mp b_mt_ok _ (List.mem_of_getElem? h))
def e_ad (b0 b : Nat) (st : Nat → Nat) : Nat → Nat := fun i => if i < 94 then b0 + i else if i = 999 then b else st (i - 1000)
set_option maxHeartbeats 4000000 in
set_option maxRecDepth 100000 in
/-- from the mathematics of the small machine to the law's walk -/
theorem whole_start_open (hmath : ∀ (L : Nat) (xs : Nat → Int32), L ≤ 3072 → ∃ g2 : mG, ev (some (L, xs)) 1300 mm_L_law 16 [.ref 999, .ref 0, .ref 55, .null] [] g0 = some (some (.int 1), g2))
    {p : Program} {e : Env} {s : State} {m : MethodId} {below : List Frame} {meth : Method} {c : Code} (l : Launch) {b L : Nat} {xs : Nat → Int32} (hL : L ≤ 3072) (C0 : lw_At p s m meth c b L xs) : W p l e room_1 s m #[Value.ref b] below meth c s.heap [] 0 0 (lw_Z below #[Value.ref b] s) (entryFrame m ([Value.ref b] : List Value).toArray 4) := by
  obtain ⟨hx, hb, hr, hml, hown, hts, hX, hbl, hlocks, hgv⟩ := C0
  obtain ⟨D, cA, hK⟩ := e_K hts
  obtain ⟨st, hst⟩ := e_S hts hgv
  have ht : ∀ w ∈ m_gt, w.before #[Value.ref b] s = true := fun w h9 => hts w (m_gt_in h9).1
  have hA : ∀ q : Nat, s.heap.size ≤ q → (fun q : Nat => s.heap.size ≤ q) q := fun _ h => h
  obtain ⟨g2, hev⟩ := hmath L xs hL
  obtain ⟨N, hex⟩ := ev_inv hev
  obtain ⟨zX, hzX, hzX2⟩ := b_X_run
  obtain ⟨zF, hzF, hzF2⟩ := b_F_run
  have hgX := b_grow _ _ _ _ _ _ _ _ _ hzX
  have hgF := b_grow _ _ _ _ _ _ _ _ _ hzF
  rw [hzX2] at hgX
  rw [hzF2] at hgF
  have lX := b_X_len
  have lF := b_F_len
  have sF := b_F_sl
  have sA : b_sl (b_X ++ [(0, 12, b_def 12)]) = b_sl b_X + 67 := b_sl_app
  have s1 : b_sl [(0, 11, b_def 11)] = 9 := rfl
  rw [s1] at hgX
  rw [sA] at hgF
  have hl := lv_entry ([.ref b]) (n := 4) (Nat.le_of_ble_eq_true rfl)
  rw [lg_entry_eq]
  generalize (lg_sl ([.ref b]) ++ List.replicate (4 - (lg_sl ([.ref b])).length) Slot.unset).toArray = ls at hl ⊢
  have hl : lv_has ls 4 [(0, .ref b)] := hl
  have hok11 := m_cl_ok 11 _ rfl
  have hok12 := m_cl_ok 12 _ rfl
  have hP0 : va_P D vwCl (b_w (b_ad s.heap.size) cA []) s.heap := fun k q h => by cases h
  refine va_new (ci := 11) (fs := b_def 11) (C := RX11) (T := TX11) (N := 9) hx hb ht (fun w h9 => m_gt_of (hok11.1 w h9).1 (hok11.1 w h9).2) (m_tyOf 11) hok11.2.1 hown (hts _ (m_wd_in e_w1.1)) (hts _ (e_inst (k := 11) rfl)) (hts _ (m_wd_in e_w1.2.2.2.2.1)) hK.1 hP0 b_w_D va_S.rf hA rfl (fun j hj => b_def_ok 11 (by decide) j hj) (Nat.le_of_ble_eq_true rfl) (Nat.le_of_ble_eq_true rfl) e_d0 (fun q H hP hD hS => W_sz (fun hz => ?_))
  obtain rfl := b_q (hp := []) hP hD hz
  have hP : va_P D vwCl (b_w (b_ad s.heap.size) cA [(0, 11, b_def 11)]) H := hP
  refine lv_dup hx hb e_d3 rfl ?_
  have hsz : H.size = s.heap.size + [(0, 11, b_def 11)].length := Nat.le_antisymm hz (b_ge hP hS.1)
  have hMX := b_met (b_walk l 400) (e_ctor (k := 11) (mm := cm_X11_init) rfl) (as := [.ref 0]) hzX (by decide) D cA s.heap.size
  rw [hzX2] at hMX
  have hgwX : GoodIn m_gt (m_ws cm_X11_init) := m_goodws (e_ctor (k := 11) (mm := cm_X11_init) rfl).1
  refine b_callG (va_runI (Ts := m_gt) (As := []) (rest := [.ref (b_ad s.heap.size 0)]) ⟨hx, hb, hml, hown, ht⟩ hMX (cwI 0 ht hgwX rfl rfl rfl (hts _ (m_wd_in e_w1.2.2.2.2.1)) (hts _ (m_wd_in e_w1.2.2.1)) (hts _ (e_ctor (k := 11) (mm := cm_X11_init) rfl).2.2.2.1) rfl (by decide +kernel) ⟨Nat.le_of_ble_eq_true rfl, Nat.le_of_ble_eq_true rfl⟩) ⟨b_blind, fun U hU hW => ⟨rfl, by rw [hU]; exact hsz, by rw [hU]; exact hP, hK.warm hW⟩⟩ rfl rfl hl.1 rfl (lv_room (Nat.le_of_ble_eq_true rfl)) e_d4 ⟨?_, ?_⟩) hS (fun H1 locs1 hP1 hS1 => ?_)
  · show 0 + 1 + (b_X.length - 1) ≤ 600000
    omega
  · show 0 + 9 + (b_sl b_X - 9) ≤ 7302250
    omega
  refine W.widen (k := b_X.length) (n := b_sl b_X) (by show 0 + 1 + (b_X.length - 1) ≤ _; omega) (by show 0 + 9 + (b_sl b_X - 9) ≤ _; omega) ?_
  refine lv_astore_n (lv' := [(1, .ref (b_ad s.heap.size 0)), (0, .ref b)]) hx hb e_d7 rfl hl (by decide) rfl (fun ls hl => ?_)
  refine va_new (ci := 12) (fs := b_def 12) (C := RX12) (T := TX12) (N := 67) hx hb ht (fun w h9 => m_gt_of (hok12.1 w h9).1 (hok12.1 w h9).2) (m_tyOf 12) hok12.2.1 hown (hts _ (m_wd_in e_w1.2.1)) (hts _ (e_inst (k := 12) rfl)) (hts _ (m_wd_in e_w1.2.2.2.2.2)) hK.1 hP1 b_w_D hS1 hA rfl (fun j hj => b_def_ok 12 (by decide) j hj) (by show _ ≤ 600000; omega) (by show _ ≤ 7302250; omega) e_d8 (fun q H2 hP2 hD2 hS2 => W_sz (fun hz2 => ?_))
  obtain rfl := b_q hP2 hD2 (by omega)
  have hP2 : va_P D vwCl (b_w (b_ad s.heap.size) cA (b_X ++ [(0, 12, b_def 12)])) H2 := by
    rw [b_w_app]
    exact hP2
  have lA : (b_X ++ [(0, 12, b_def 12)]).length = 56 := by rw [List.length_append, lX]; rfl
  have hsz2 : H2.size = s.heap.size + (b_X ++ [(0, 12, b_def 12)]).length := Nat.le_antisymm (by omega) (b_ge hP2 hS2.1)
  refine lv_dup hx hb e_d11 rfl ?_
  have hMF := b_met (b_walk l 400) (e_ctor (k := 12) (mm := cm_X12_init) rfl) (as := [.ref 55]) hzF (by decide) D cA s.heap.size
  rw [hzF2] at hMF
  have hgwF : GoodIn m_gt (m_ws cm_X12_init) := m_goodws (e_ctor (k := 12) (mm := cm_X12_init) rfl).1
  have e55 : b_ad s.heap.size b_X.length = b_ad s.heap.size 55 := by rw [lX]
  rw [e55]
  refine b_callG (va_runI (Ts := m_gt) (As := []) (rest := [.ref (b_ad s.heap.size 55)]) ⟨hx, hb, hml, hown, ht⟩ hMF (cwI 0 ht hgwF rfl rfl rfl (hts _ (m_wd_in e_w1.2.2.2.2.2)) (hts _ (m_wd_in e_w1.2.2.2.1)) (hts _ (e_ctor (k := 12) (mm := cm_X12_init) rfl).2.2.2.1) rfl (by decide +kernel) ⟨Nat.le_of_ble_eq_true rfl, Nat.le_of_ble_eq_true rfl⟩) ⟨b_blind, fun U hU hW => ⟨rfl, by rw [hU]; exact hsz2, by rw [hU]; exact hP2, hK.warm hW⟩⟩ rfl rfl hl.1 rfl (lv_room (Nat.le_of_ble_eq_true rfl)) e_d12 ⟨?_, ?_⟩) hS2 (fun H3 locs3 hP3 hS3 => ?_)
  · show b_X.length + 1 + (b_F.length - (b_X ++ [(0, 12, b_def 12)]).length) ≤ 600000
    omega
  · show b_sl b_X + 67 + (b_sl b_F - b_sl (b_X ++ [(0, 12, b_def 12)])) ≤ 7302250
    omega
  refine W.widen (k := 600000) (n := 7302250) (by show b_X.length + 1 + (b_F.length - (b_X ++ [(0, 12, b_def 12)]).length) ≤ 600000; omega) (by show b_sl b_X + 67 + (b_sl b_F - b_sl (b_X ++ [(0, 12, b_def 12)])) ≤ 7302250; omega) ?_
  refine lv_astore_n (lv' := [(2, .ref (b_ad s.heap.size 55)), (1, .ref (b_ad s.heap.size 0)), (0, .ref b)]) hx hb e_d15 rfl hl (by decide) rfl (fun ls hl => ?_)
  have had : ∀ i, i < 94 → e_ad s.heap.size b st i = s.heap.size + i := fun i hi => if_pos hi
  have had9 : e_ad s.heap.size b st 999 = b := rfl
  have hadS : ∀ j, e_ad s.heap.size b st (1000 + j) = st j := by
    intro j
    unfold e_ad
    rw [if_neg (by omega), if_neg (by omega), show 1000 + j - 1000 = j by omega]
  have hPm : va_P D vwCl (m_w (e_ad s.heap.size b st) cA g0) H3 := by
    rw [b_w_eq had]
    exact hP3
  have hinj : m_inj (e_ad s.heap.size b st) := by
    intro i j hi hj h9
    rw [m_sh_len] at hi hj
    rw [had i hi, had j hj] at h9
    omega
  have hAD : ∀ i, i < m_sh.length → (fun q : Nat => s.heap.size ≤ q) (e_ad s.heap.size b st i) := by
    intro i hi
    rw [m_sh_len] at hi
    rw [had i hi]
    exact Nat.le_add_right _ _
  have hKm : m_K D cA (e_ad s.heap.size b st) (fun q : Nat => s.heap.size ≤ q) s := ⟨hK.1, hK.2.1, fun j c n d ty vs hj => by rw [hadS]; exact hst j c n d ty vs hj⟩
  have hlm : m_lv (e_ad s.heap.size b st) ls 4 [.ref 999, .ref 0, .ref 55, .null] := by
    refine ⟨hl.1, rfl, hl.2.1, fun i v hi hn => ?_⟩
    match i, hi with
    | 0, hi => cases hi; exact lv_at hl 2 rfl
    | 1, hi => cases hi; exact lv_at hl 1 rfl
    | 2, hi => cases hi; exact lv_at hl 0 rfl
    | 3, hi => cases hi; exact absurd rfl hn
    | i + 4, hi => simp at hi
  refine m_walk l N (some (L, xs)) 1300 mm_L_law 16 [.ref 999, .ref 0, .ref 55, .null] [] g0 (some (.int 1)) g2 hex D cA (e_ad s.heap.size b st) (fun q : Nat => s.heap.size ≤ q) p e room_1 s m #[Value.ref b] below meth c 600000 7302250 (lw_Z below #[Value.ref b] s) ⟨hx, hb, hml, hown, fun w hw _ => hts w hw, hKm, fun g => m_w_D hinj hAD, fun q hq => by cases hq; exact ⟨hX, hbl, Nat.not_le.mpr hbl⟩, hinj, hAD, hA, Nat.le_of_ble_eq_true rfl, Nat.le_of_ble_eq_true rfl, Nat.le_refl _, Nat.le_refl _, e_ops⟩ ?_ H3 locs3 ls hPm hS3 hlm
  intro o H locs ls ho hd hro hP2 hS
  obtain ⟨pc, i, len, k, v, w, ts⟩ := o
  dsimp only at hd hro
  cases i with
  | ireturn =>
    refine va_forget (fun q hq => hS.2.2 q hq) ?_
    exact lw_ret hx hb hr hlocks hd
  | return_ => exact absurd hro.1 (fun h9 => by cases h9)
  | lreturn => obtain ⟨x, h9, -⟩ := hro; cases h9
  | areturn => obtain ⟨x, n, h9, -⟩ := hro; cases h9
  | _ => exact hro.elim
