theorem b_grow : ∀ (n d : Nat) (mm : mM) (stp : Option Nat) (pc : Nat) (L S : List Value) (hp : List bE) (z : Nat × List Value × List Value × List bE), b_ex n d mm stp pc L S hp = some z → hp.length ≤ z.2.2.2.length ∧ b_sl hp ≤ b_sl z.2.2.2 := by
  intro n
  induction n with
  | zero => intro d mm stp pc L S hp z h; cases h
  | succ n ih =>
    intro d mm stp pc L S hp z h
    unfold b_ex at h
    split at h
    · cases h; exact ⟨Nat.le_refl _, Nat.le_refl _⟩
    · split at h
      · cases h
      · split at h
        · obtain ⟨pc2, L2, S2, hp2, h1, h2, h3⟩ := b_xs_grow h
          have h4 := ih _ _ _ _ _ _ _ _ h1
          exact ⟨Nat.le_trans h2 h4.1, Nat.le_trans h3 h4.2⟩
        · split at h
          · cases h; exact ⟨Nat.le_refl _, Nat.le_refl _⟩
          · cases h
        · cases d with
          | zero => cases h
          | succ d =>
            unfold b_call at h
            dsimp only at h
            split at h
            · obtain ⟨x, t, -, h⟩ := m_pa_inv h
              split at h
              · exact ih _ _ _ _ _ _ _ _ h
              · cases h
            · split at h
              · cases h
              · split at h
                · cases h
                · split at h
                  · cases h
                  · split at h
                    · cases h
                    · next hp1 hr =>
                      obtain ⟨q, hq, rfl⟩ := Option.map_eq_some_iff.mp hr
                      have h4 := ih _ _ _ _ _ _ _ _ hq
                      have h5 := ih _ _ _ _ _ _ _ _ h
                      exact ⟨Nat.le_trans h4.1 h5.1, Nat.le_trans h4.2 h5.2⟩
def b_rm (d mc ms : Nat) : Room := { frames := d, cells := mc, slots := ms, locals := 60 * d }
def b_Pc (D : va_G) (cA : Nat → ClassId) (b0 : Nat) (hp : List bE) (as : List Value) : Array Value → State → Prop := va_Pc (as.map (m_tr (b_ad b0))) (fun U => U.heap.size = b0 + hp.length ∧ va_P D vwCl (b_w (b_ad b0) cA hp) U.heap ∧ b_K D cA U)
def b_Qc (D : va_G) (cA : Nat → ClassId) (b0 : Nat) (hp : List bE) : Array Value → State → Outcome → State → Prop := fun _ st oc t => oc = .returned none ∧ va_P D vwCl (b_w (b_ad b0) cA hp) t.heap ∧ va_F (fun q => b0 ≤ q) st t
def b_Ok (mm : mM) : Prop := (Jvm.Cond.code mm.2.1 mm.2.2.1 mm.2.2.2.1 none) ∈ lw_tbl ∧ mm.2.2.2.2.1 = none ∧ (Jvm.Cond.initialized mm.2.1.cls) ∈ lw_tbl ∧ (Jvm.Cond.instanceMethod mm.2.1) ∈ lw_tbl ∧ mm.2.1.name = "<init>" ∧ (parseMethodDescriptor mm.2.1.desc).map (fun d => d.parameters.length + 1) = some mm.2.2.2.2.2.1 ∧
  m_cn[mm.1]? = some mm.2.1.cls ∧ mm.2.1.cls ≠ "java/lang/invoke/MethodHandle" ∧ mm.2.1.cls ≠ "java/lang/invoke/VarHandle" ∧ plainName mm.2.1.cls = true ∧ mm.2.2.2.1 + 19 ≤ 60 ∧ ∀ o ∈ mm.2.2.2.2.2.2.2, b_ochk mm.1 mm.2.2.1 mm.2.2.2.1 o = true
theorem b_mchk_inv {mm : mM} (h : b_mchk mm = true) : b_Ok mm := by
  obtain ⟨oc, y, cc, maxL, ret, na, ⟨p1, p2, p3, p4, st⟩, ops⟩ := mm
  unfold b_mchk at h
  dsimp only at h
  simp only [Bool.and_eq_true, decide_eq_true_eq] at h
  obtain ⟨h1, h2, h3, h4, h5, h6, h7, h8, h9, h10, h11, h12⟩ := h
  exact ⟨m_wd_in h1, h2, m_wd_in h3, m_wd_in h4, h5, h6, h7, h8, h9, h10, h11, fun o ho => List.all_eq_true.mp h12 o ho⟩
def b_Cx (D : va_G) (cA : Nat → ClassId) (b0 h0 s0 N2 S2 d : Nat) (mm : mM) (p : Program) (R : Room) (s : State) (m : MethodId) (args : Array Value) (c : Code) (meth : Method) : Prop :=
  p.tables.exec = Jvm.exec ∧ c.code = mm.2.2.1 ∧ c.maxLocals = mm.2.2.2.1 ∧ s.vm.findClass (m_own mm.1) = some m.cls ∧ (∀ w ∈ lw_tbl, goodWord w = true → w.before args s = true) ∧ b_K D cA s ∧ (∀ o ∈ mm.2.2.2.2.2.2.2, b_ochk mm.1 mm.2.2.1 mm.2.2.2.1 o = true) ∧ (∀ o ∈ mm.2.2.2.2.2.2.2, ∀ idx, o.2.1 = .putfield idx → meth.name = "<init>") ∧
  s.heap.size = b0 + h0 ∧ d ≤ R.frames ∧ 60 * d ≤ R.locals ∧ N2 - h0 ≤ R.cells ∧ S2 - s0 ≤ R.slots
def b_Wk (l : Launch) (n : Nat) : Prop := ∀ (d : Nat) (mm : mM) (stp : Option Nat) (pc : Nat) (L S : List Value) (hp : List bE) (z : Nat × List Value × List Value × List bE), b_ex n d mm stp pc L S hp = some z →
  ∀ (D : va_G) (cA : Nat → ClassId) (b0 h0 s0 : Nat) (p : Program) (e : Env) (R : Room) (s : State) (m : MethodId) (args : Array Value) (below : List Frame) (meth : Method) (c : Code) (Q : State → Prop), b_Cx D cA b0 h0 s0 z.2.2.2.length (b_sl z.2.2.2) d mm p R s m args c meth → h0 ≤ hp.length → s0 ≤ b_sl hp →
  (∀ (H : Heap) (locs : List Loc) (ls : Array Slot), (stp = some z.1 ∨ (decode mm.2.2.1 z.1 = .ok (.return_, 1) ∧ z.2.2.1 = [])) → va_P D vwCl (b_w (b_ad b0) cA z.2.2.2) H → va_S (fun q => b0 ≤ q) s.heap H locs → m_lv (b_ad b0) ls mm.2.2.2.1 z.2.1 → W p l e R s m args below meth c H locs (z.2.2.2.length - h0) (b_sl z.2.2.2 - s0) Q (F0 m z.1 ls (z.2.2.1.map (m_tr (b_ad b0))))) →
  ∀ (H : Heap) (locs : List Loc) (ls : Array Slot), va_P D vwCl (b_w (b_ad b0) cA hp) H → va_S (fun q => b0 ≤ q) s.heap H locs → m_lv (b_ad b0) ls mm.2.2.2.1 L → W p l e R s m args below meth c H locs (hp.length - h0) (b_sl hp - s0) Q (F0 m pc ls (S.map (m_tr (b_ad b0))))
theorem b_blind {D : va_G} {cA : Nat → ClassId} {b0 : Nat} {hp : List bE} {as : List Value} : FrameBlind (b_Pc D cA b0 hp as) := fun a U _ mk q => by
  obtain ⟨q0, q1, qP, qK⟩ := q
  exact ⟨q0, q1, qP, qK.same rfl⟩
theorem b_met {l : Launch} {n : Nat} (IH : b_Wk l n) {mm : mM} (hok : b_Ok mm) {d : Nat} {as : List Value} {hp : List bE} {z : Nat × List Value × List Value × List bE} (hex : b_ex n d mm none 0 (m_ent mm.2.2.2.1 as) [] hp = some z) (hlen : (m_sl as).length ≤ mm.2.2.2.1) (D : va_G) (cA : Nat → ClassId) (b0 : Nat) :
    Met l mm.2.1 (m_ws mm) (b_rm d (z.2.2.2.length - hp.length) (b_sl z.2.2.2 - b_sl hp)) (b_Pc D cA b0 hp as) (b_Qc D cA b0 z.2.2.2) (z.2.2.2.length - hp.length) (b_sl z.2.2.2 - b_sl hp) (fun q => b0 ≤ q) := by
  obtain ⟨hw1, hret, hw2, hw3, hnm, hpar, hcn, hm1, hm2, hpn, hmx, hops⟩ := hok
  refine Met.ofW (cc := mm.2.2.1) (maxL := mm.2.2.2.1) (ret := mm.2.2.2.2.1) hpn rfl ?_
  intro p e s m args below meth c s₁ B hml hv
  obtain ⟨rfl, hsz, hP, hK⟩ := hv
  have hts := atoms_spec (ws := m_ws mm) B.pre
  have hown : s.vm.findClass (m_own mm.1) = some m.cls := by
    have h1 : m_own mm.1 = mm.2.1.cls := by unfold m_own; rw [hcn]; rfl
    rw [h1]
    exact findClass_of_methodNamed B.named
  have hlocks := B.notSynchronized
  have hin : meth.name = "<init>" := (name_of_methodNamed B.named B.method).1.trans hnm
  rw [lg_entry_eq]
  have key := IH d mm none 0 _ [] hp z hex D cA b0 hp.length (b_sl hp) p e (b_rm d (z.2.2.2.length - hp.length) (b_sl z.2.2.2 - b_sl hp)) s m (as.map (m_tr (b_ad b0))).toArray below meth c (MQ below (b_Qc D cA b0 z.2.2.2) (as.map (m_tr (b_ad b0))).toArray s (z.2.2.2.length - hp.length) (b_sl z.2.2.2 - b_sl hp) (fun q => b0 ≤ q)) ⟨B.exec, B.bytes, hml, hown, fun w hw hg => hts w (List.mem_cons_of_mem _ (m_gt_of hw hg)), hK, hops, fun _ _ _ _ => hin, hsz, Nat.le_refl _, Nat.le_refl _, Nat.le_refl _, Nat.le_refl _⟩ (Nat.le_refl _) (Nat.le_refl _) (fun H locs ls hend hP2 hS hl2 => by
    rcases hend with hend | ⟨hd, hS0⟩
    · cases hend
    · rw [hS0]
      exact W.vret B.exec B.bytes (B.returns.trans hret) (fun t ht _ => ⟨rfl, by rw [ht]; exact hP2, hS.F ht⟩) hS.2.2 hd) s.heap [] _ hP va_S.rf (m_lv.entry hlen)
  rw [Nat.sub_self, Nat.sub_self] at key
  exact key
section BG
variable {p : Program} {l : Launch} {e : Env} {R : Room} {s : State} {m : MethodId} {args : Array Value} {below : List Frame} {meth : Method} {c : Code} {H : Heap} {locs : List Loc} {cells slots mc ms : Nat} {Q : State → Prop} {ls : Array Slot} {D : va_G} {cA : Nat → ClassId} {b0 : Nat}
theorem b_callG {pc : Nat} {st0 rest : List Value} {hp2 : List bE} {a : Array Value} (hr : va_Run p l e R s m args below meth c H locs cells slots mc ms (F0 m pc ls st0) rest (b_Qc D cA b0 hp2 a) (fun q => b0 ≤ q)) (hS : va_S (fun q => b0 ≤ q) s.heap H locs)
    (kk : ∀ (H1 : Heap) (locs1 : List Loc), va_P D vwCl (b_w (b_ad b0) cA hp2) H1 → va_S (fun q => b0 ≤ q) s.heap H1 locs1 → W p l e R s m args below meth c H1 locs1 (cells + mc) (slots + ms) Q (F0 m (pc + 3) ls rest)) : W p l e R s m args below meth c H locs cells slots Q (F0 m pc ls st0) := by
  intro T hT X
  obtain ⟨v, st₀, t, T', L, h0, X', hL, e1, e2, ⟨hv, hP2, hz, hk⟩, st⟩ := hr T hT X
  cases hv
  rw [h0] at hz hk
  obtain ⟨t2, a1, b1⟩ := kk T'.heap (locs ++ L) (by rw [e1]; exact hP2)
    ⟨Nat.le_trans hS.1 (by rw [e1]; exact hz), fun q h1 h2 => by rw [e1, hk q (Nat.lt_of_lt_of_le h1 hS.1) h2]; exact hS.2.1 q h1 h2, fun q hq => by
      rcases List.mem_append.mp hq with h | h
      · exact hS.2.2 q h
      · exact hL q h⟩ T' rfl X'
  exact ⟨t2, st t2 a1, b1⟩
end BG
theorem b_k_1 {i : Instr} (h : b_k i = 1) : i = .return_ := by
  cases i <;> first | rfl | cases h
theorem b_k_2 {i : Instr} {n : Nat} (h : b_k i = n) (h0 : n ≠ 0) (h1 : n ≠ 1) : ∃ idx, i = .invokespecial idx := by
  subst h
  cases i <;> first | exact ⟨_, rfl⟩ | exact absurd rfl h0 | exact absurd rfl h1
set_option maxHeartbeats 4000000 in
theorem b_walk (l : Launch) : ∀ n, b_Wk l n := by
  intro n
  induction n with
  | zero => intro d mm stp pc L S hp z h; cases h
  | succ n IH =>
    intro d mm stp pc L S hp z h D cA b0 h0 s0 p e R s m args below meth c Q C hh0 hs0 hE H locs ls hP hS hl
    have C0 := C
    obtain ⟨hx, hb, hmx, hown, hts, hK, hops, hnm, hsh, hfr, hlo, hce, hsl⟩ := C0
    unfold b_ex at h
    cases hat : b_at stp pc with
    | true =>
      rw [hat] at h
      cases h
      refine hE H locs ls (Or.inl ?_) hP hS hl
      unfold b_at at hat
      cases stp with
      | none => cases hat
      | some q => rw [Nat.eq_of_beq_eq_true hat]
    | false =>
    rw [hat] at h
    dsimp only at h
    cases hf : m_fetch mm.2.2.2.2.2.2.2 pc with
    | none => rw [hf] at h; cases h
    | some o =>
    rw [hf] at h
    dsimp only at h
    obtain ⟨ho, rfl⟩ := m_fetch_inv hf
    have hch := hops o ho
    split at h
    · exact b_xs_sound hx hb hown hts hK (hnm o ho) hch (fun pc L S hp1 h9 => b_grow _ _ _ _ _ _ _ _ _ h9) hh0 hs0 hce hsl hsh hP hS hl h (fun pc L S hp1 h9 hh hs H locs ls hP hS hl => IH d mm stp pc L S hp1 z h9 D cA b0 h0 s0 p e R s m args below meth c Q C hh hs hE H locs ls hP hS hl)
    · next hk =>
      obtain ⟨pc, i, len, k, v, w, ts⟩ := o
      have hi := b_k_1 hk
      dsimp only at hi
      subst hi
      simp only [b_ochk, Bool.and_eq_true, decide_eq_true_eq, Nat.beq_eq] at hch
      obtain ⟨hd, rfl⟩ := hch
      split at h
      · cases h
        exact hE H locs ls (Or.inr ⟨hd, rfl⟩) hP hS hl
      · cases h
    · next n0 n1 =>
      obtain ⟨pc, i, len, k, v, w, ts⟩ := o
      obtain ⟨idx, hi⟩ := b_k_2 rfl n0 n1
      dsimp only at hi
      subst hi
      simp only [b_ochk, Bool.and_eq_true, decide_eq_true_eq, Nat.beq_eq] at hch
      obtain ⟨hd, rfl, hv⟩ := hch
      have ht : ∀ w ∈ m_gt, w.before args s = true := fun w h9 => hts w (m_gt_in h9).1 (m_gt_in h9).2
      cases d with
      | zero => cases h
      | succ d =>
      unfold b_call at h
      dsimp only at h
      cases hk6 : Nat.beq k 6000 with
      | true =>
        rw [hk6] at h hv
        have h1 := m_pa_inv h
        clear h
        obtain ⟨x, S, rfl, h⟩ := h1
        split at h
        · next hc8 =>
          have hc8 : m_cat S ≤ 8 := Nat.le_of_ble_eq_true hc8
          refine W.objInit hx hb hown (hts _ (m_wd_in (of_decide_eq_true hv)) rfl) (hts _ (m_wd_in b_oi_ok.1) rfl) (hts _ (m_wd_in b_oi_ok.2.1) rfl) rfl (by rw [hmx]; exact hl.1) (rest := S.map (m_tr (b_ad b0))) rfl hd (by omega) ?_ ?_
          · rw [m_cat_tr]
            show 2 * 0 + _ + 12 ≤ _
            omega
          · exact IH (d + 1) mm stp _ L S hp z h D cA b0 h0 s0 p e R s m args below meth c Q C hh0 hs0 hE H locs ls hP hS hl
        · cases h
      | false =>
        rw [hk6] at h hv
        dsimp only at h hv
        cases hm : b_mt[k]? with
        | none => rw [hm] at h; cases h
        | some m2 =>
        rw [hm] at h hv
        dsimp only at h hv
        have hok := b_mchk_inv (List.all_eq_true.mp b_mt_ok _ (List.mem_of_getElem? hm))
        have hok0 := hok
        obtain ⟨hw1, hret, hw2, hw3, hnm2, hpar, hcn, hm1, hm2, hpn, hmx2, hops2⟩ := hok0
        cases hsp : m_split m2.2.2.2.2.2.1 [] S with
        | none => rw [hsp] at h; cases h
        | some ar =>
        obtain ⟨as, rest⟩ := ar
        rw [hsp] at h
        dsimp only at h
        obtain ⟨P, hp1, hp2, hp3⟩ := m_split_inv _ _ _ _ _ hsp
        rw [List.append_nil] at hp3
        subst hp3
        subst hp2
        cases hokc : b_okc m2 as rest with
        | false => rw [hokc] at h; cases h
        | true =>
        rw [hokc] at h
        dsimp only at h
        unfold b_okc at hokc
        rw [Bool.and_eq_true, Bool.and_eq_true] at hokc
        obtain ⟨hle, hc8, hrcv⟩ := hokc
        have hle := Nat.le_of_ble_eq_true hle
        have hc8 : m_cat rest ≤ 8 := Nat.le_of_ble_eq_true hc8
        cases hrun : b_ex n d m2 none 0 (m_ent m2.2.2.2.1 as) [] hp with
        | none => rw [hrun] at h; cases h
        | some q =>
        rw [hrun] at h
        have h : b_ex n (d + 1) mm stp (pc + 3) L rest q.2.2.2 = some z := h
        have hM := b_met IH hok hrun hle D cA b0
        have hg1 := b_grow _ _ _ _ _ _ _ _ _ hrun
        have hg2 := b_grow _ _ _ _ _ _ _ _ _ h
        have hsh2 : ∃ b t, as = .ref b :: t := by
          cases as with
          | nil => cases hrcv
          | cons x t => cases x with
            | ref b => exact ⟨b, t, rfl⟩
            | _ => cases hrcv
        obtain ⟨b, t, rfl⟩ := hsh2
        have hpar2 : (parseMethodDescriptor m2.2.1.desc).map (fun d => d.parameters.length) = some t.length := by
          rw [← hp1] at hpar
          cases hpd : parseMethodDescriptor m2.2.1.desc with
          | none => rw [hpd] at hpar; cases hpar
          | some sg =>
            rw [hpd] at hpar
            have h8 : sg.parameters.length + 1 = t.length + 1 := Option.some.inj hpar
            exact congrArg some (Nat.succ.inj h8)
        have hstk2 : ((Value.ref b :: t).reverse ++ rest).map (m_tr (b_ad b0)) = (t.map (m_tr (b_ad b0))).reverse ++ .ref (b_ad b0 b) :: rest.map (m_tr (b_ad b0)) := by
          rw [List.map_append, List.map_reverse]
          simp [m_tr]
        have hroom : (b_rm d (q.2.2.2.length - hp.length) (b_sl q.2.2.2 - b_sl hp)).frames + 1 ≤ R.frames ∧ 8 + (m2.2.2.2.1 + 11) + (b_rm d (q.2.2.2.length - hp.length) (b_sl q.2.2.2 - b_sl hp)).locals ≤ R.locals := by
          unfold b_rm
          dsimp only
          omega
        have hW8 : 2 * (F0 m pc ls (((Value.ref b :: t).reverse ++ rest).map (m_tr (b_ad b0)))).monitorRoom + ((rest.map (m_tr (b_ad b0))).map fun v => v.category).sum ≤ 8 := lv_room (by rw [m_cat_tr]; exact hc8)
        have hn : (t.map (m_tr (b_ad b0))).length = t.length := List.length_map ..
        refine W_sz (fun hz => ?_)
        have hsz : H.size = b0 + hp.length := Nat.le_antisymm (by omega) (b_ge hP (by have := hS.1; omega))
        have hpre : PreS s H (b_Pc D cA b0 hp (Value.ref b :: t)) (.ref (b_ad b0 b) :: t.map (m_tr (b_ad b0))) := ⟨b_blind, fun U hU hW => ⟨rfl, by rw [hU]; exact hsz, by rw [hU]; exact hP, hK.warm hW⟩⟩
        have hf : hp.length - h0 + (q.2.2.2.length - hp.length) ≤ R.cells ∧ b_sl hp - s0 + (b_sl q.2.2.2 - b_sl hp) ≤ R.slots := ⟨by omega, by omega⟩
        have fin : ∀ (H1 : Heap) (locs1 : List Loc), va_P D vwCl (b_w (b_ad b0) cA q.2.2.2) H1 → va_S (fun q => b0 ≤ q) s.heap H1 locs1 → W p l e R s m args below meth c H1 locs1 (hp.length - h0 + (q.2.2.2.length - hp.length)) (b_sl hp - s0 + (b_sl q.2.2.2 - b_sl hp)) Q (F0 m (pc + 3) ls (rest.map (m_tr (b_ad b0)))) := by
          intro H1 locs1 hP1 hS1
          have h5 := IH (d + 1) mm stp (pc + 3) L rest q.2.2.2 z h D cA b0 h0 s0 p e R s m args below meth c Q C (by omega) (by omega) hE H1 locs1 ls hP1 hS1 hl
          rw [show q.2.2.2.length - h0 = hp.length - h0 + (q.2.2.2.length - hp.length) by omega, show b_sl q.2.2.2 - s0 = b_sl hp - s0 + (b_sl q.2.2.2 - b_sl hp) by omega] at h5
          exact h5
        have hws : m_ws m2 = Jvm.Cond.code m2.2.1 m2.2.2.1 m2.2.2.2.1 none :: m_gt := by unfold m_ws; rw [hret]
        have hgw : GoodIn m_gt (m_ws m2) := by
          rw [hws]
          intro w hw
          rcases List.mem_cons.mp hw with rfl | hw
          · exact m_good hw1 rfl
          · exact m_good (m_gt_in hw).1 (m_gt_in hw).2
        cases hnst : b_nst ts with
        | false =>
          rw [hnst] at hv
          exact b_callG (va_runI (Ts := m_gt) ⟨hx, hb, hmx, hown, ht⟩ hM (cwI t.length ht hgw hws rfl rfl (hts _ hw2 rfl) (hts _ (m_wd_in (of_decide_eq_true hv)) rfl) (hts _ hw3 rfl) hnm2 ⟨hm1, hm2, hpar2⟩ hroom) hpre rfl hn hl.1 hstk2 hW8 hd hf) hS fin
        | true =>
          rw [hnst] at hv
          exact b_callG (va_runIN (Ts := m_gt) ⟨hx, hb, hmx, hown, ht⟩ hM ⟨va_cnB t.length ht hgw hws rfl rfl (hK.2.1 _ (m_wd_in (of_decide_eq_true hv)) rfl) (hts _ hw2 rfl) ⟨hm1, hm2, hpar2⟩ hroom, hnm2, hts _ hw3 rfl⟩ hpre rfl hn hl.1 hstk2 hW8 hd hf) hS fin
