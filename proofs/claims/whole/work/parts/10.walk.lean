/-! SOUND (3): calls, returns, the walk of any method, the contract -/
theorem m_split_inv : ∀ (n : Nat) (acc S as rest : List Value), m_split n acc S = some (as, rest) → ∃ P, P.length = n ∧ S = P.reverse ++ rest ∧ as = P ++ acc := by
  intro n
  induction n with
  | zero =>
    intro acc S as rest h
    unfold m_split at h
    cases h
    exact ⟨[], rfl, rfl, rfl⟩
  | succ n ih =>
    intro acc S as rest h
    cases S with
    | nil => unfold m_split at h; cases h
    | cons x S =>
      unfold m_split at h
      obtain ⟨P, h1, h2, h3⟩ := ih _ _ _ _ h
      refine ⟨P ++ [x], by simp [h1], by simp [h2], by simp [h3]⟩
theorem m_cat_tr {ad : Nat → Nat} (S : List Value) : ((S.map (m_tr ad)).map fun v => v.category).sum = m_cat S := by
  unfold m_cat
  rw [List.map_map]
  congr 1
  exact List.map_congr_left (fun v _ => m_tr_cat v)
def m_A (ad : Nat → Nat) (sz : Nat) : Nat → Prop := fun q => (∃ i, i < m_sh.length ∧ q = ad i) ∨ sz ≤ q
def m_ws (mm : mM) : List Jvm.Cond := .code mm.2.1 mm.2.2.1 mm.2.2.2.1 mm.2.2.2.2.1 :: m_gt
def m_rm (d : Nat) : Room := { frames := d, cells := 0, slots := 0, locals := 60 * d }
def m_Pc (D : va_G) (cA : Nat → ClassId) (ad : Nat → Nat) (g : mG) (sz : Nat) (as : List Value) : Array Value → State → Prop := va_Pc (as.map (m_tr ad)) (fun U => U.heap.size = sz ∧ va_P D vwCl (m_w ad cA g) U.heap ∧ m_K D cA ad (m_A ad sz) U)
def m_Qc (D : va_G) (cA : Nat → ClassId) (ad : Nat → Nat) (g : mG) (sz : Nat) (r : Option Value) : Array Value → State → Outcome → State → Prop := fun _ st oc t => oc = .returned (r.map (m_tr ad)) ∧ va_P D vwCl (m_w ad cA g) t.heap ∧ va_F (m_A ad sz) st t
/-- the facts of a method of the table -/
def m_Ok (mm : mM) : Prop := (Jvm.Cond.code mm.2.1 mm.2.2.1 mm.2.2.2.1 mm.2.2.2.2.1) ∈ lw_tbl ∧ (Jvm.Cond.initialized mm.2.1.cls) ∈ lw_tbl ∧
  ((mm.2.2.2.2.2.2.1.2.2.2.2 = true ∧ (Jvm.Cond.static mm.2.1) ∈ lw_tbl ∧ (parseMethodDescriptor mm.2.1.desc).map (fun d => d.parameters.length) = some mm.2.2.2.2.2.1) ∨ (mm.2.2.2.2.2.2.1.2.2.2.2 = false ∧ (Jvm.Cond.instanceMethod mm.2.1) ∈ lw_tbl ∧ (Jvm.Cond.selects mm.2.1.cls mm.2.1 mm.2.1) ∈ lw_tbl ∧ (parseMethodDescriptor mm.2.1.desc).map (fun d => d.parameters.length + 1) = some mm.2.2.2.2.2.1)) ∧
  m_cn[mm.1]? = some mm.2.1.cls ∧ mm.2.1.cls ≠ "java/lang/invoke/MethodHandle" ∧ mm.2.1.cls ≠ "java/lang/invoke/VarHandle" ∧ plainName mm.2.1.cls = true ∧ mm.2.2.2.1 + 19 ≤ 60 ∧ ∀ o ∈ mm.2.2.2.2.2.2.2, m_ochk mm.1 mm.2.2.1 mm.2.2.2.1 o = true
theorem m_mchk_inv {mm : mM} (h : m_mchk mm = true) : m_Ok mm := by
  obtain ⟨oc, y, cc, maxL, ret, na, ⟨p1, p2, p3, p4, st⟩, ops⟩ := mm
  unfold m_mchk at h
  dsimp only at h
  simp only [Bool.and_eq_true, decide_eq_true_eq] at h
  obtain ⟨h1, h2, h3, h4, h5, h6, h7, h8, h9⟩ := h
  refine ⟨m_wd_in h1, m_wd_in h2, ?_, h4, h5, h6, h7, h8, fun o ho => List.all_eq_true.mp h9 o ho⟩
  cases st with
  | true =>
    simp only [Bool.and_eq_true, decide_eq_true_eq] at h3
    exact Or.inl ⟨rfl, m_wd_in h3.1, h3.2⟩
  | false =>
    simp only [Bool.and_eq_true, decide_eq_true_eq] at h3
    exact Or.inr ⟨rfl, m_wd_in h3.1, m_wd_in h3.2.1, h3.2.2⟩
/-- what stands through a walk -/
def m_Cx (D : va_G) (cA : Nat → ClassId) (ad : Nat → Nat) (A : Nat → Prop) (sc : Option (Nat × (Nat → Int32))) (d : Nat) (mm : mM) (p : Program) (R : Room) (s : State) (m : MethodId) (args : Array Value) (c : Code) (cells slots : Nat) : Prop :=
  p.tables.exec = Jvm.exec ∧ c.code = mm.2.2.1 ∧ c.maxLocals = mm.2.2.2.1 ∧ s.vm.findClass (m_own mm.1) = some m.cls ∧ (∀ w ∈ lw_tbl, goodWord w = true → w.before args s = true) ∧ m_K D cA ad A s ∧ (∀ g, va_D A (m_w ad cA g)) ∧ (∀ q, sc = some q → va_X (ad 999) q.1 q.2 s s.heap ∧ ad 999 < s.heap.size ∧ ¬ A (ad 999)) ∧
  m_inj ad ∧ (∀ i, i < m_sh.length → A (ad i)) ∧ (∀ q, s.heap.size ≤ q → A q) ∧ d ≤ R.frames ∧ 60 * d ≤ R.locals ∧ cells ≤ R.cells ∧ slots ≤ R.slots ∧ ∀ o ∈ mm.2.2.2.2.2.2.2, m_ochk mm.1 mm.2.2.1 mm.2.2.2.1 o = true
def m_isR (i : Instr) : Prop := i = .return_ ∨ i = .ireturn ∨ i = .lreturn ∨ i = .areturn
/-- what may stand at a return: the value fits the method's result -/
def m_rOk (ret : Option FieldType) (i : Instr) (r : Option Value) : Prop := match i with
  | .return_ => r = none ∧ ret = none
  | .ireturn => ∃ x, r = some (.int x) ∧ (ret = some .int ∨ (ret = some .boolean ∧ x &&& 1 = x))
  | .lreturn => ∃ x, r = some (.long x) ∧ ret = some .long
  | .areturn => ∃ x n, r = some (.ref x) ∧ ret = some (.object n)
  | _ => False
def m_Wk (l : Launch) (n : Nat) : Prop := ∀ (sc : Option (Nat × (Nat → Int32))) (d : Nat) (mm : mM) (pc : Nat) (L S : List Value) (g : mG) (r : Option Value) (g2 : mG), m_ex n sc d mm pc L S g = some (r, g2) →
  ∀ (D : va_G) (cA : Nat → ClassId) (ad : Nat → Nat) (A : Nat → Prop) (p : Program) (e : Env) (R : Room) (s : State) (m : MethodId) (args : Array Value) (below : List Frame) (meth : Method) (c : Code) (cells slots : Nat) (Q : State → Prop), m_Cx D cA ad A sc d mm p R s m args c cells slots →
  (∀ (o : mO) (H : Heap) (locs : List Loc) (ls : Array Slot), o ∈ mm.2.2.2.2.2.2.2 → decode mm.2.2.1 o.1 = .ok (o.2.1, 1) → m_rOk mm.2.2.2.2.1 o.2.1 r → va_P D vwCl (m_w ad cA g2) H → va_S A s.heap H locs → W p l e R s m args below meth c H locs cells slots Q (F0 m o.1 ls (r.toList.map (m_tr ad)))) →
  ∀ (H : Heap) (locs : List Loc) (ls : Array Slot), va_P D vwCl (m_w ad cA g) H → va_S A s.heap H locs → m_lv ad ls mm.2.2.2.1 L → W p l e R s m args below meth c H locs cells slots Q (F0 m pc ls (S.map (m_tr ad)))
theorem m_met {l : Launch} {n : Nat} (IH : m_Wk l n) {mm : mM} (hok : m_Ok mm) {d : Nat} {as : List Value} {g g2 : mG} {r : Option Value} (hex : m_ex n none d mm 0 (m_ent mm.2.2.2.1 as) [] g = some (r, g2)) (hlen : (m_sl as).length ≤ mm.2.2.2.1) (D : va_G) (cA : Nat → ClassId) {ad : Nat → Nat} (hinj : m_inj ad) (sz : Nat) :
    Met l mm.2.1 (m_ws mm) (m_rm d) (m_Pc D cA ad g sz as) (m_Qc D cA ad g2 sz r) 0 0 (m_A ad sz) := by
  obtain ⟨hw1, hw2, hw3, hcn, hm1, hm2, hpn, hmx, hops⟩ := hok
  refine Met.ofW (cc := mm.2.2.1) (maxL := mm.2.2.2.1) (ret := mm.2.2.2.2.1) hpn rfl ?_
  intro p e s m args below meth c s₁ B hml hv
  obtain ⟨rfl, hsz, hP, hK⟩ := hv
  have hts := atoms_spec (ws := m_ws mm) B.pre
  have hown : s.vm.findClass (m_own mm.1) = some m.cls := by
    have h1 : m_own mm.1 = mm.2.1.cls := by unfold m_own; rw [hcn]; rfl
    rw [h1]
    exact findClass_of_methodNamed B.named
  have hlocks := B.notSynchronized
  subst hsz
  rw [lg_entry_eq]
  refine IH none d mm 0 _ [] g r g2 hex D cA ad (m_A ad s.heap.size) p e _ s m _ below meth c 0 0 _ ⟨B.exec, B.bytes, hml, hown, fun w hw hg => hts w (List.mem_cons_of_mem _ (m_gt_of hw hg)), hK, fun g => m_w_D hinj (fun i hi => Or.inl ⟨i, hi, rfl⟩), (fun q hq => by cases hq), hinj, fun i hi => Or.inl ⟨i, hi, rfl⟩, fun q hq => Or.inr hq, Nat.le_refl _, Nat.le_refl _, Nat.le_refl _, Nat.le_refl _, hops⟩ ?_ s.heap [] _ hP va_S.rf (m_lv.entry hlen)
  intro o H locs ls ho hd hr hP2 hS
  have post : ∀ t : State, t.heap = H → s.WarmedH t.vm → m_Qc D cA ad g2 s.heap.size r (as.map (m_tr ad)).toArray s (.returned (r.map (m_tr ad))) t := fun t ht _ => ⟨rfl, by rw [ht]; exact hP2, hS.F ht⟩
  obtain ⟨pc, i, len, k, v, w, ts⟩ := o
  dsimp only at hd hr
  have hrt := B.returns
  cases i with
  | return_ =>
    obtain ⟨rfl, hr⟩ := hr
    exact W.vret B.exec B.bytes (hrt.trans hr) post hS.2.2 hd
  | ireturn =>
    obtain ⟨x, rfl, hx⟩ := hr
    rcases hx with hx | ⟨hx, hx2⟩
    · exact W.iret B.exec B.bytes (hrt.trans hx) post hS.2.2 hd
    · exact W.zret B.exec B.bytes (hrt.trans hx) (by show Value.int (x &&& 1) = _; rw [hx2]) post hS.2.2 hd
  | lreturn =>
    obtain ⟨x, rfl, hx⟩ := hr
    exact W.lret B.exec B.bytes (hrt.trans hx) post hS.2.2 hd
  | areturn =>
    obtain ⟨x, n, rfl, hx⟩ := hr
    exact W.aret B.exec B.bytes (hrt.trans hx) (Or.inl ⟨n, rfl⟩) (Or.inr ⟨_, rfl⟩) post hS.2.2 hd
  | _ => exact hr.elim

theorem m_mt_in {k : Nat} {mm : mM} (h : m_mt k = some mm) : ∃ l ∈ m_mgs, mm ∈ l := by
  unfold m_mt at h
  split at h
  · next l e => exact ⟨l, List.mem_of_getElem? e, List.mem_of_getElem? h⟩
  · cases h
theorem m_all_ok {k : Nat} {mm : mM} (h : m_mt k = some mm) : m_Ok mm := by
  obtain ⟨l, hl, hm⟩ := m_mt_in h
  refine m_mchk_inv ?_
  unfold m_mgs at hl
  simp only [List.mem_cons, List.not_mem_nil, or_false] at hl
  rcases hl with rfl | rfl | rfl | rfl | rfl | rfl | rfl | rfl | rfl | rfl | rfl | rfl | rfl | rfl | rfl | rfl | rfl | rfl
  · exact List.all_eq_true.mp m_mg0_ok _ hm
  · exact List.all_eq_true.mp m_mg1_ok _ hm
  · exact List.all_eq_true.mp m_mg2_ok _ hm
  · exact List.all_eq_true.mp m_mg3_ok _ hm
  · exact List.all_eq_true.mp m_mg4_ok _ hm
  · exact List.all_eq_true.mp m_mg5_ok _ hm
  · exact List.all_eq_true.mp m_mg6_ok _ hm
  · exact List.all_eq_true.mp m_mg7_ok _ hm
  · exact List.all_eq_true.mp m_mg8_ok _ hm
  · exact List.all_eq_true.mp m_mg9_ok _ hm
  · exact List.all_eq_true.mp m_mg10_ok _ hm
  · exact List.all_eq_true.mp m_mg11_ok _ hm
  · exact List.all_eq_true.mp m_mg12_ok _ hm
  · exact List.all_eq_true.mp m_mg13_ok _ hm
  · exact List.all_eq_true.mp m_mg14_ok _ hm
  · exact List.all_eq_true.mp m_mg15_ok _ hm
  · exact List.all_eq_true.mp m_mg16_ok _ hm
  · exact List.all_eq_true.mp m_mg17_ok _ hm
theorem m_cn_vw {ci : Nat} {q : vw_C} (h : vwCl[ci]? = some q) : m_cn[ci]? = some q.1 := by
  match ci, h with
  | 0, h => cases h; rfl
  | 1, h => cases h; rfl
  | 2, h => cases h; rfl
  | 3, h => cases h; rfl
  | 4, h => cases h; rfl
  | 5, h => cases h; rfl
  | 6, h => cases h; rfl
  | 7, h => cases h; rfl
  | 8, h => cases h; rfl
  | 9, h => cases h; rfl
  | 10, h => cases h; rfl
  | 11, h => cases h; rfl
  | 12, h => cases h; rfl
  | n + 13, h => cases h
theorem m_sh_cl {a ci : Nat} {fs : List Nat} (h : m_sh[a]? = some (0, ci, fs)) : ∃ q, vwCl[ci]? = some q := by
  have h1 : (m_sh.all fun x => match x with
    | (0, c, _) => Nat.blt c 13
    | _ => true) = true := by decide +kernel
  have h2 : Nat.blt ci 13 = true := List.all_eq_true.mp h1 _ (List.mem_of_getElem? h)
  have h3 : ci < 13 := Nat.lt_of_lt_of_le (Nat.lt_succ_self ci) (Nat.le_of_ble_eq_true h2)
  exact ⟨_, List.getElem?_eq_getElem (l := vwCl) (i := ci) h3⟩
theorem m_lchk_inv {oc idx k pl : Nat} {nest : Bool} (h : m_lchk (oc, idx, k, pl, nest) = true) (hk : Nat.ble 5000 k = false) {m2 : mM} (hm : m_mt k = some m2) : (Jvm.Cond.methodLink (m_own oc) idx m2.2.1) ∈ lw_tbl ∨ (Jvm.Cond.methodLinkNest (m_own oc) idx m2.2.1 m_host) ∈ lw_tbl := by
  unfold m_lchk at h
  dsimp only at h
  rw [hk, hm] at h
  cases nest with
  | false => exact Or.inl (m_wd_in (of_decide_eq_true h))
  | true => exact Or.inr (m_wd_in (of_decide_eq_true h))
theorem m_lchk_ac {oc idx k pl : Nat} {nest : Bool} (h : m_lchk (oc, idx, k, pl, nest) = true) (hk : Nat.ble 5000 k = true) : (Jvm.Cond.methodLink (m_own oc) idx (m_spn k)) ∈ lw_tbl := by
  unfold m_lchk at h
  dsimp only at h
  rw [hk] at h
  cases nest with
  | false => exact m_wd_in (of_decide_eq_true h)
  | true => cases h
theorem m_good {w : Jvm.Cond} (h : w ∈ lw_tbl) (hg : goodWord w = true) : w ∈ m_gt ∧ ((w.onTables && w.keeps) = true ∨ ∃ ty, w = .arrayClass ty) := ⟨m_gt_of h hg, good_of_word hg⟩
theorem m_goodws {m2 : mM} (h : (Jvm.Cond.code m2.2.1 m2.2.2.1 m2.2.2.2.1 m2.2.2.2.2.1) ∈ lw_tbl) : GoodIn m_gt (m_ws m2) := by
  intro w hw
  rcases List.mem_cons.mp hw with rfl | hw
  · exact m_good h rfl
  · exact m_good (m_gt_in hw).1 (m_gt_in hw).2
section MC
variable {p : Program} {l : Launch} {e : Env} {R : Room} {s : State} {m : MethodId} {args : Array Value} {below : List Frame} {meth : Method} {c : Code} {H : Heap} {locs : List Loc} {cells slots : Nat} {Q : State → Prop} {ls : Array Slot} {D : va_G} {cA : Nat → ClassId} {ad : Nat → Nat} {A : Nat → Prop}
theorem m_callG {pc : Nat} {st0 rest : List Value} {g2 : mG} {r : Option Value} {a : Array Value} (hr : va_Run p l e R s m args below meth c H locs cells slots 0 0 (F0 m pc ls st0) rest (m_Qc D cA ad g2 H.size r a) (m_A ad H.size)) (hS : va_S A s.heap H locs) (hA : ∀ q, m_A ad H.size q → A q)
    (kk : ∀ (H1 : Heap) (locs1 : List Loc), va_P D vwCl (m_w ad cA g2) H1 → va_S A s.heap H1 locs1 → W p l e R s m args below meth c H1 locs1 cells slots Q (F0 m (pc + 3) ls ((r.map (m_tr ad)).toList ++ rest))) : W p l e R s m args below meth c H locs cells slots Q (F0 m pc ls st0) := by
  intro T hT X
  obtain ⟨v, st₀, t, T', L, h0, X', hL, e1, e2, ⟨hv, hP2, hz, hk⟩, st⟩ := hr T hT X
  cases hv
  rw [h0] at hz hk
  obtain ⟨t2, a1, b1⟩ := kk T'.heap (locs ++ L) (by rw [e1]; exact hP2)
    ⟨Nat.le_trans hS.1 (by rw [e1]; exact hz), fun q h1 h2 => by rw [e1, hk q (Nat.lt_of_lt_of_le h1 hS.1) (fun z => h2 (hA q z))]; exact hS.2.1 q h1 h2, fun q hq => by
      rcases List.mem_append.mp hq with h | h
      · exact hS.2.2 q h
      · exact hA _ (hL q h)⟩ T' rfl X'
  exact ⟨t2, st t2 a1, b1⟩
theorem m_blind {g : mG} {sz : Nat} {as : List Value} : FrameBlind (m_Pc D cA ad g sz as) := fun a U _ mk q => by
  obtain ⟨q0, q1, qP, qK⟩ := q
  exact ⟨q0, q1, qP, qK.same rfl rfl⟩
theorem m_preU {g : mG} {as : List Value} (hK : m_K D cA ad A s) (hP : va_P D vwCl (m_w ad cA g) H) (hS : va_S A s.heap H locs) (hA : ∀ q, m_A ad H.size q → A q) : ∀ U : State, U.heap = H → s.WarmedH U.vm → m_Pc D cA ad g H.size as (as.map (m_tr ad)).toArray U := by
  intro U hU hW
  exact ⟨rfl, by rw [hU], by rw [hU]; exact hP, hK.warm hW (fun a h1 h2 => by rw [hU]; exact hS.2.1 a h1 h2) hA⟩
end MC
set_option maxHeartbeats 4000000 in
theorem m_call_sound {l : Launch} {n : Nat} (IH : m_Wk l n) {p : Program} {e : Env} {R : Room} {s : State} {m : MethodId} {args : Array Value} {below : List Frame} {meth : Method} {c : Code} {H : Heap} {locs : List Loc} {cells slots : Nat} {Q : State → Prop} {ls : Array Slot} {D : va_G} {cA : Nat → ClassId} {ad : Nat → Nat} {A : Nat → Prop} {sc : Option (Nat × (Nat → Int32))} {d : Nat} {mm : mM} (C : m_Cx D cA ad A sc d mm p R s m args c cells slots)
    {pc k idx : Nat} {v : Bool} {S L : List Value} {g : mG} {z : Option Value × mG} {κ : List Value → mG → Option (Option Value × mG)} (hd : decode mm.2.2.1 pc = .ok (match v with
      | true => .invokevirtual idx
      | false => .invokestatic idx, 3)) (hml : m_any m_ml mm.1 idx k = true) (hv : match v with
      | true => Nat.ble 5000 k = false ∧ m_stc k = false
      | false => Nat.ble 5000 k = true ∨ m_stc k = true)
    (hP : va_P D vwCl (m_w ad cA g) H) (hS : va_S A s.heap H locs) (hl : m_lv ad ls mm.2.2.2.1 L) (h : m_call v d k S g (fun d m2 as g => m_ex n none d m2 0 (m_ent m2.2.2.2.1 as) [] g) κ = some z)
    (kk : ∀ (S : List Value) (g : mG), κ S g = some z → ∀ (H : Heap) (locs : List Loc), va_P D vwCl (m_w ad cA g) H → va_S A s.heap H locs → W p l e R s m args below meth c H locs cells slots Q (F0 m (pc + 3) ls (S.map (m_tr ad)))) :
    W p l e R s m args below meth c H locs cells slots Q (F0 m pc ls (S.map (m_tr ad))) := by
  obtain ⟨hx, hb, hmx, hown, hts, hK, hD, hsc, hinj, hAD, hA0, hfr, hlo, hce, hsl, hops⟩ := C
  obtain ⟨pl, nest, hml⟩ := m_any_inv m_ml_ok hml
  have hA : ∀ q, m_A ad H.size q → A q := by
    intro q hq
    rcases hq with ⟨i, hi, rfl⟩ | hq
    · exact hAD i hi
    · exact hA0 q (Nat.le_trans hS.1 hq)
  have ht : ∀ w ∈ m_gt, w.before args s = true := fun w h9 => hts w (m_gt_in h9).1 (m_gt_in h9).2
  cases d with
  | zero => cases h
  | succ d =>
  unfold m_call at h
  dsimp only at h
  cases hk : Nat.ble 5000 k with
  | true =>
    rw [hk] at h
    dsimp only at h
    cases v with
    | true => rw [hk] at hv; cases hv.1
    | false =>
    have hlink := m_lchk_ac hml hk
    unfold m_spec at h
    split at h
    · unfold m_copy at h
      have h0 := m_pi_inv h
      clear h
      obtain ⟨n1, S, rfl, h⟩ := h0
      have h0 := m_pi_inv h
      clear h
      obtain ⟨dp, S, rfl, h⟩ := h0
      have h0 := m_pa_inv h
      clear h
      obtain ⟨a, S, rfl, h⟩ := h0
      have h0 := m_pi_inv h
      clear h
      obtain ⟨sp, S, rfl, h⟩ := h0
      have h0 := m_pa_inv h
      clear h
      obtain ⟨a0, S, rfl, h⟩ := h0
      obtain ⟨n0, rs0, hs0, h⟩ := m_arr_inv h
      obtain ⟨n2, rs2, hs2, h⟩ := m_arr_inv h
      split at h
      · cases h
      · next hc =>
        simp only [not_or] at hc
        obtain ⟨c1, c2, c3, c4, c5, c6⟩ := hc
        have hSn : S = [] := Decidable.of_not_not c6
        subst hSn
        refine va_copyl (rest := []) hx hb (by rw [hmx]; exact hl.1.symm) hown (hts _ hlink rfl) (hts _ (m_wd_in m_ac_ok.1) rfl) (hts _ (m_wd_in m_ac_ok.2.1) rfl) (hts _ (m_wd_in m_ac_ok.2.2) rfl) hK.1 hP (hD g) hS a0 a 3 3 (ty := .long) (m_w_at hs0) (m_w_at hs2) rfl rfl rfl c1 c2 c3 (by omega) (by omega) (fun _ _ => rfl) (by omega) ?_ hd (fun H1 locs1 hP1 hD1 hS1 => ?_)
        · have e9 : nativeFrameWords "java/lang/System" "arraycopy" 5 = 7 := by decide +kernel
          rw [e9]
          simp only [List.map_nil, List.sum_nil]
          omega
        · refine kk [] _ h H1 locs1 ?_ hS1
          have e8 : m_e ad cA (m_cp g a0 a sp.toNatClampNeg dp.toNatClampNeg n1.toNatClampNeg) a (3 + 1, n2, rs2) = .inl (cA 3, n2, .inr (.inl (va_cpy (g.2 a0) (g.2 a) sp.toNatClampNeg dp.toNatClampNeg n1.toNatClampNeg))) := by
            show (Sum.inl (cA 3, n2, Sum.inr (Sum.inl (if a = a then va_cpy (g.2 a0) (g.2 a) sp.toNatClampNeg dp.toNatClampNeg n1.toNatClampNeg else g.2 a))) : va_E) = _
            rw [if_pos rfl]
          rw [← m_w_set (g := g) (g2 := m_cp g a0 a sp.toNatClampNeg dp.toNatClampNeg n1.toNatClampNeg) hs2 (fun c hc => rfl) (fun c hc => if_neg hc), e8]
          exact hP1
    · have h0 := m_pi_inv h
      clear h
      obtain ⟨y, S, rfl, h⟩ := h0
      have h0 := m_pi_inv h
      clear h
      obtain ⟨x, S, rfl, h⟩ := h0
      split at h
      · next hc8 =>
        have hc8 : m_cat S ≤ 8 := Nat.le_of_ble_eq_true hc8
        exact va_mmax (rest := S.map (m_tr ad)) hx hb (by rw [hmx]; exact hl.1.symm) hown (hts _ hlink rfl) (hts _ (m_wd_in m_ma_ok.1.1) rfl) (hts _ (m_wd_in m_ma_ok.2.2.2) rfl) (hts _ (m_wd_in m_ma_ok.1.2) rfl) (by omega) (by rw [m_cat_tr]; omega) hce hsl hd (kk _ _ h H locs hP hS)
      · cases h
    · have h0 := m_pi_inv h
      clear h
      obtain ⟨y, S, rfl, h⟩ := h0
      have h0 := m_pi_inv h
      clear h
      obtain ⟨x, S, rfl, h⟩ := h0
      split at h
      · next hc8 =>
        have hc8 : m_cat S ≤ 8 := Nat.le_of_ble_eq_true hc8
        exact va_mmin (rest := S.map (m_tr ad)) hx hb (by rw [hmx]; exact hl.1.symm) hown (hts _ hlink rfl) (hts _ (m_wd_in m_ma_ok.2.1.1) rfl) (hts _ (m_wd_in m_ma_ok.2.2.2) rfl) (hts _ (m_wd_in m_ma_ok.2.1.2) rfl) (by omega) (by rw [m_cat_tr]; omega) hce hsl hd (kk _ _ h H locs hP hS)
      · cases h
    · next n0 n1 n2 =>
      have h0 := m_pi_inv h
      clear h
      obtain ⟨x, S, rfl, h⟩ := h0
      have hsp : m_spn k = Lib.Math.abs.name := by
        unfold m_spn
        split
        · exact absurd rfl n0
        · exact absurd rfl n1
        · exact absurd rfl n2
        · rfl
      rw [hsp] at hlink
      split at h
      · next hc8 =>
        have hc8 : m_cat S ≤ 8 := Nat.le_of_ble_eq_true hc8
        exact va_mabs (rest := S.map (m_tr ad)) hx hb (by rw [hmx]; exact hl.1.symm) hown (hts _ hlink rfl) (hts _ (m_wd_in m_ma_ok.2.2.1.1) rfl) (hts _ (m_wd_in m_ma_ok.2.2.2) rfl) (hts _ (m_wd_in m_ma_ok.2.2.1.2) rfl) (by omega) (by rw [m_cat_tr]; omega) hce hsl hd (kk _ _ h H locs hP hS)
      · cases h
  | false =>
    rw [hk] at h
    dsimp only at h
    cases hm : m_mt k with
    | none => rw [hm] at h; cases h
    | some m2 =>
    rw [hm] at h
    dsimp only at h
    obtain ⟨hw1, hw2, hw3, hcn, hm1, hm2, hpn, hmx2, hops2⟩ := m_all_ok hm
    cases hsp : m_split m2.2.2.2.2.2.1 [] S with
    | none => rw [hsp] at h; cases h
    | some ar =>
    obtain ⟨as, rest⟩ := ar
    rw [hsp] at h
    dsimp only at h
    obtain ⟨P, hp1, hp2, hp3⟩ := m_split_inv _ _ _ _ _ hsp
    rw [List.append_nil] at hp3
    subst hp3
    subst hp2
    cases hokc : m_okc v m2 as rest with
    | false => rw [hokc] at h; cases h
    | true =>
    rw [hokc] at h
    dsimp only at h
    cases hrun : m_ex n none d m2 0 (m_ent m2.2.2.2.1 as) [] g with
    | none => rw [hrun] at h; simp [m_bnd] at h
    | some rg =>
    obtain ⟨r, g2⟩ := rg
    rw [hrun] at h
    have h : κ (m_psh r rest) g2 = some z := h
    unfold m_okc at hokc
    rw [Bool.and_eq_true, Bool.and_eq_true] at hokc
    obtain ⟨⟨hle, hc8⟩, hrcv⟩ := hokc
    have hle := Nat.le_of_ble_eq_true hle
    have hc8 : m_cat rest ≤ 8 := Nat.le_of_ble_eq_true hc8
    have hM := m_met IH (m_all_ok hm) hrun hle D cA hinj H.size
    have hstk : (as.reverse ++ rest).map (m_tr ad) = (as.map (m_tr ad)).reverse ++ rest.map (m_tr ad) := by rw [List.map_append, List.map_reverse]
    have hroom : (m_rm d).frames + 1 ≤ R.frames ∧ 8 + (m2.2.2.2.1 + 11) + (m_rm d).locals ≤ R.locals := by
      unfold m_rm
      dsimp only
      omega
    have hW8 : 2 * (F0 m pc ls ((as.reverse ++ rest).map (m_tr ad))).monitorRoom + ((rest.map (m_tr ad)).map fun v => v.category).sum ≤ 8 := lv_room (by rw [m_cat_tr]; exact hc8)
    have hsz : (F0 m pc ls ((as.reverse ++ rest).map (m_tr ad))).locals.size = mm.2.2.2.1 := hl.1
    have fin : ∀ (H1 : Heap) (locs1 : List Loc), va_P D vwCl (m_w ad cA g2) H1 → va_S A s.heap H1 locs1 → W p l e R s m args below meth c H1 locs1 cells slots Q (F0 m (pc + 3) ls ((r.map (m_tr ad)).toList ++ rest.map (m_tr ad))) := by
      intro H1 locs1 hP1 hS1
      have h9 := kk (m_psh r rest) g2 h H1 locs1 hP1 hS1
      cases r with
      | none => exact h9
      | some x => exact h9
    have hst := m_lchk_inv hml hk hm
    have hstc : m_stc k = m2.2.2.2.2.2.2.1.2.2.2.2 := by unfold m_stc; rw [hm]
    cases v with
    | true =>
      have hs0 : m2.2.2.2.2.2.2.1.2.2.2.2 = false := by rw [← hstc]; exact hv.2
      rcases hw3 with ⟨h9, -⟩ | ⟨-, hin, hsel, hpar⟩
      · rw [hs0] at h9; cases h9
      · have hsh : ∃ b t, as = .ref b :: t := by
          cases as with
          | nil => cases hrcv
          | cons x t => cases x with
            | ref b => exact ⟨b, t, rfl⟩
            | _ => cases hrcv
        obtain ⟨b, t, rfl⟩ := hsh
        dsimp only at hrcv
        cases hsb : m_sh[b]? with
        | none => rw [hsb] at hrcv; cases hrcv
        | some q0 =>
        obtain ⟨t0, ci, fs⟩ := q0
        rw [hsb] at hrcv
        cases t0 with
        | succ t0 => cases hrcv
        | zero =>
        have hci : ci = m2.1 := Nat.eq_of_beq_eq_true hrcv
        subst hci
        obtain ⟨q1, hq1⟩ := m_sh_cl hsb
        have hcl : q1.1 = m2.2.1.cls := Option.some.inj ((m_cn_vw hq1).symm.trans hcn)
        have hrec := va_recv hK.1 hP hq1 (m_w_at hsb)
        rw [hcl] at hrec
        have hn : (t.map (m_tr ad)).length = t.length := List.length_map ..
        have hpar2 : (parseMethodDescriptor m2.2.1.desc).map (fun d => d.parameters.length) = some t.length := by
          rw [← hp1] at hpar
          cases hpd : parseMethodDescriptor m2.2.1.desc with
          | none => rw [hpd] at hpar; cases hpar
          | some sg =>
            rw [hpd] at hpar
            have h8 : sg.parameters.length + 1 = t.length + 1 := Option.some.inj hpar
            exact congrArg some (Nat.succ.inj h8)
        have hstk2 : ((Value.ref b :: t).reverse ++ rest).map (m_tr ad) = (t.map (m_tr ad)).reverse ++ .ref (ad b) :: rest.map (m_tr ad) := by
          rw [hstk]
          simp [m_tr]
        rcases hst with hlk | hlk
        · exact m_callG (va_runV (Ts := m_gt) ⟨hx, hb, hmx, hown, ht⟩ hM (cwV t.length ht (fun w hw => by
            rcases List.mem_append.mp hw with hw | hw
            · simp only [List.mem_cons, List.not_mem_nil, or_false] at hw
              rcases hw with rfl | rfl | rfl | rfl
              · exact m_good hlk rfl
              · exact m_good hin rfl
              · exact m_good hsel rfl
              · exact m_good hw2 rfl
            · exact m_goodws hw1 w hw) rfl rfl rfl ⟨rfl, hm1, hm2, hpar2⟩ hroom) ⟨m_blind, hrec, m_preU hK hP hS hA⟩ rfl hn hsz hstk2 hW8 hd ⟨hce, hsl⟩) hS hA fin
        · exact m_callG (va_runVN (Ts := m_gt) ⟨hx, hb, hmx, hown, ht⟩ hM ⟨va_cnB t.length ht (m_goodws hw1) rfl rfl rfl (hK.2.1 _ hlk rfl) (hts _ hw2 rfl) ⟨hm1, hm2, hpar2⟩ hroom, hts _ hin rfl, hts _ hsel rfl⟩ ⟨m_blind, hrec, m_preU hK hP hS hA⟩ rfl hn hsz hstk2 hW8 hd ⟨hce, hsl⟩) hS hA fin
    | false =>
      have hs0 : m2.2.2.2.2.2.2.1.2.2.2.2 = true := by
        rw [← hstc]
        rcases hv with hv | hv
        · rw [hk] at hv; cases hv
        · exact hv
      rcases hw3 with ⟨-, hstt, hpar⟩ | ⟨h9, -⟩
      · have hn : (as.map (m_tr ad)).length = m2.2.2.2.2.2.1 := by rw [List.length_map]; exact hp1
        rcases hst with hlk | hlk
        · exact m_callG (va_runS (Ts := m_gt) ⟨hx, hb, hmx, hown, ht⟩ hM (va_cwS m2.2.2.2.2.2.1 ht (fun w hw => by
              rcases List.mem_append.mp hw with hw | hw
              · simp only [List.mem_cons, List.not_mem_nil, or_false] at hw
                rcases hw with rfl | rfl | rfl
                · exact m_good hlk rfl
                · exact m_good hstt rfl
                · exact m_good hw2 rfl
              · exact m_goodws hw1 w hw) rfl rfl rfl ⟨hm1, hm2, hpar⟩ hroom) ⟨m_blind, m_preU hK hP hS hA⟩ rfl hn hsz hstk hW8 hd ⟨hce, hsl⟩) hS hA fin
        · exact m_callG (va_runSN (Ts := m_gt) ⟨hx, hb, hmx, hown, ht⟩ hM ⟨va_cnB m2.2.2.2.2.2.1 ht (m_goodws hw1) rfl rfl rfl (hK.2.1 _ hlk rfl) (hts _ hw2 rfl) ⟨hm1, hm2, hpar⟩ hroom, hts _ hstt rfl, trivial⟩ ⟨m_blind, m_preU hK hP hS hA⟩ rfl hn hsz hstk hW8 hd ⟨hce, hsl⟩) hS hA fin
      · rw [hs0] at h9; cases h9
theorem m_k_5 {i : Instr} (h : m_k i = 5) : ∃ idx, i = .invokevirtual idx := by
  cases i <;> first | exact ⟨_, rfl⟩ | cases h
theorem m_k_6 {i : Instr} {n : Nat} (h : m_k i = n) (h0 : n ≠ 0) (h1 : n ≠ 1) (h2 : n ≠ 2) (h3 : n ≠ 3) (h4 : n ≠ 4) (h5 : n ≠ 5) : ∃ idx, i = .invokestatic idx := by
  subst h
  cases i <;> first | exact ⟨_, rfl⟩ | exact absurd rfl h0 | exact absurd rfl h1 | exact absurd rfl h2 | exact absurd rfl h3 | exact absurd rfl h4 | exact absurd rfl h5
theorem m_k_1 {i : Instr} (h : m_k i = 1) : i = .return_ := by
  cases i <;> first | rfl | cases h
theorem m_k_2 {i : Instr} (h : m_k i = 2) : i = .ireturn := by
  cases i <;> first | rfl | cases h
theorem m_k_3 {i : Instr} (h : m_k i = 3) : i = .lreturn := by
  cases i <;> first | rfl | cases h
theorem m_k_4 {i : Instr} (h : m_k i = 4) : i = .areturn := by
  cases i <;> first | rfl | cases h
