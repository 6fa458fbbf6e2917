/-! SOUND (2): one instruction -/
theorem m_fetch_inv {ops : List mO} {pc : Nat} {o : mO} (h : m_fetch ops pc = some o) : o ∈ ops ∧ o.1 = pc := by
  unfold m_fetch at h
  refine ⟨List.mem_of_find?_eq_some h, ?_⟩
  have := List.find?_some h
  exact Nat.eq_of_beq_eq_true this
theorem m_any_inv {t : List (List (Nat × Nat × Nat × Nat × Bool))} {f : Nat × Nat × Nat × Nat × Bool → Bool} (hf : t.all (fun l => l.all f) = true) {oc idx k : Nat} (h : m_any t oc idx k = true) : ∃ pl nest, f (oc, idx, k, pl, nest) = true := by
  unfold m_any at h
  split at h
  · next l e =>
    obtain ⟨⟨a, b, c, pl, nest⟩, hm, he⟩ := List.any_eq_true.mp h
    simp only [Bool.and_eq_true, Nat.beq_eq] at he
    obtain ⟨rfl, rfl, rfl⟩ := he
    exact ⟨pl, nest, List.all_eq_true.mp (List.all_eq_true.mp hf _ (List.mem_of_getElem? e)) _ hm⟩
  · cases h
theorem m_fld_inv {β : Type} {a k : Nat} {f : Nat → Option β} {z : β} (h : m_fld a k f = some z) : ∃ fs q, m_sh[a]? = some (0, k / 100, fs) ∧ fs[k % 100]? = some q ∧ f q = some z := by
  unfold m_fld at h
  split at h
  · next c fs e =>
    split at h
    · next hb =>
      have hc : c = k / 100 := Nat.eq_of_beq_eq_true hb
      subst hc
      split at h
      · next q hq => exact ⟨fs, q, e, hq, h⟩
      · cases h
    · cases h
  · cases h
theorem m_arr_inv {β : Type} {t a : Nat} {f : Nat → List Nat → Option β} {z : β} (h : m_arr t a f = some z) : ∃ n rs, m_sh[a]? = some (t + 1, n, rs) ∧ f n rs = some z := by
  unfold m_arr at h
  split at h
  · next u n rs e =>
    split at h
    · next hb =>
      have hc : u = t := Nat.eq_of_beq_eq_true hb
      subst hc
      exact ⟨n, rs, e, h⟩
    · cases h
  · cases h
theorem m_stat_inv {β : Type} {a : Nat} {f : FieldType → List Int32 → Option β} {z : β} (h : m_stat a f = some z) : ∃ j c n d ty vs, a = 1000 + j ∧ m_sa[j]? = some (c, n, d, ty, vs) ∧ f ty vs = some z := by
  unfold m_stat at h
  split at h
  · next hb =>
    have hle : 1000 ≤ a := Nat.le_of_ble_eq_true hb
    split at h
    · next c n d ty vs e => exact ⟨a - 1000, c, n, d, ty, vs, by omega, e, h⟩
    · cases h
  · cases h
theorem m_sw_k {β : Type} {pc k : Nat} {d : Int} {x : Int32} {f : Nat → Option β} (hd : (pc : Int) + d = (k : Int)) : ∀ (ps : List (Int × Int)) (ts : List (Int32 × Nat)), m_kchk pc ps ts = true → ∃ t : Nat, m_sw x k f ts = f t ∧ (pc : Int) + Op.lookupswitch.offset ps d x.toInt = (t : Int) := by
  intro ps
  induction ps with
  | nil =>
    intro ts h
    cases ts with
    | nil => exact ⟨k, rfl, hd⟩
    | cons q r => simp [m_kchk] at h
  | cons o os ih =>
    intro ts h
    cases ts with
    | nil => simp [m_kchk] at h
    | cons q r =>
      obtain ⟨a, b⟩ := o
      simp only [m_kchk, Bool.and_eq_true, decide_eq_true_eq] at h
      obtain ⟨h1, h2, h3⟩ := h
      rw [Op.lookupswitch.offset_cons]
      unfold m_sw
      by_cases hx : x = q.1
      · rw [m_if_pos hx, if_pos (by rw [hx, h1])]
        exact ⟨q.2, rfl, h2⟩
      · rw [m_if_neg hx, if_neg (fun e => hx (Int32.toInt_inj.mp (by rw [h1, e])))]
        exact ih r h3
theorem m_sw_t {β : Type} {pc k : Nat} {x : Int32} {f : Nat → Option β} : ∀ (os : List Int) (lo : Int) (ts : List (Int32 × Nat)), m_tchk pc lo os ts = true → ((x.toInt < lo ∨ lo + os.length - 1 < x.toInt) ∧ m_sw x k f ts = f k) ∨ (¬ x.toInt < lo ∧ ¬ lo + os.length - 1 < x.toInt ∧ ∃ (off : Int) (t : Nat), os[(x.toInt - lo).toNat]? = some off ∧ m_sw x k f ts = f t ∧ (pc : Int) + off = (t : Int)) := by
  intro os
  induction os with
  | nil =>
    intro lo ts h
    cases ts with
    | nil =>
      refine Or.inl ⟨?_, rfl⟩
      simp only [List.length_nil]
      omega
    | cons q r => simp [m_tchk] at h
  | cons o os ih =>
    intro lo ts h
    cases ts with
    | nil => simp [m_tchk] at h
    | cons q r =>
      simp only [m_tchk, Bool.and_eq_true, decide_eq_true_eq] at h
      obtain ⟨h1, h2, h3⟩ := h
      unfold m_sw
      by_cases hx : x = q.1
      · have e : x.toInt = lo := by rw [hx, h1]
        refine Or.inr ⟨by omega, by simp only [List.length_cons]; omega, o, q.2, ?_, by rw [m_if_pos hx], h2⟩
        rw [e, Int.sub_self]
        rfl
      · have hne : x.toInt ≠ lo := fun e => hx (Int32.toInt_inj.mp (by rw [h1, e]))
        rw [m_if_neg hx]
        rcases ih (lo + 1) r h3 with ⟨h4, h5⟩ | ⟨h4, h5, off, t, h6, h7, h8⟩
        · refine Or.inl ⟨?_, h5⟩
          simp only [List.length_cons]
          omega
        · refine Or.inr ⟨by omega, by simp only [List.length_cons]; omega, off, t, ?_, h7, h8⟩
          rw [show (x.toInt - lo).toNat = (x.toInt - (lo + 1)).toNat + 1 by omega]
          exact h6
theorem m_fs_at {ad : Nat → Nat} {g : mG} {a k q : Nat} {fs : List Nat} (h : fs[k]? = some q) : (m_fs ad g a fs)[k]? = some (m_fv ad g a k q) := by
  unfold m_fs
  rw [List.getElem?_mapIdx, h]
  rfl
theorem m_fs_len {ad : Nat → Nat} {g : mG} {a : Nat} {fs : List Nat} : (m_fs ad g a fs).length = fs.length := by
  unfold m_fs
  rw [List.length_mapIdx]
theorem m_fs_set1 {ad : Nat → Nat} {g : mG} {a k q : Nat} {fs : List Nat} {x : Int32} (h : fs[k]? = some q) (hq : q = 0 ∨ q = 2) : (m_fs ad g a fs).set k (.int x) = m_fs ad (m_s1 g a k x) a fs := by
  apply List.ext_getElem?
  intro j
  have hlt : k < fs.length := (List.getElem?_eq_some_iff.mp h).1
  by_cases hj : j = k
  · subst hj
    rw [List.getElem?_set_self (by rw [m_fs_len]; exact hlt), m_fs_at h]
    rcases hq with rfl | rfl <;> simp [m_fv, m_s1, upd]
  · rw [List.getElem?_set_ne (fun e => hj e.symm)]
    cases hf : fs[j]? with
    | none => unfold m_fs; rw [List.getElem?_mapIdx, List.getElem?_mapIdx, hf]; rfl
    | some c =>
      rw [m_fs_at hf, m_fs_at hf]
      unfold m_fv
      split <;> simp [m_s1, upd, hj]
theorem m_fs_set2 {ad : Nat → Nat} {g : mG} {a k : Nat} {fs : List Nat} {x : Int64} (h : fs[k]? = some 1) : (m_fs ad g a fs).set k (.long x) = m_fs ad (m_s2 g a k x) a fs := by
  apply List.ext_getElem?
  intro j
  have hlt : k < fs.length := (List.getElem?_eq_some_iff.mp h).1
  by_cases hj : j = k
  · subst hj
    rw [List.getElem?_set_self (by rw [m_fs_len]; exact hlt), m_fs_at h]
    simp [m_fv, m_s2, vp_updL]
  · rw [List.getElem?_set_ne (fun e => hj e.symm)]
    cases hf : fs[j]? with
    | none => unfold m_fs; rw [List.getElem?_mapIdx, List.getElem?_mapIdx, hf]; rfl
    | some c =>
      rw [m_fs_at hf, m_fs_at hf]
      unfold m_fv
      split <;> simp [m_s2, vp_updL, hj]
theorem m_s1_o {g : mG} {a k : Nat} {x : Int32} : (∀ c, c ≠ a → (m_s1 g a k x).1 c = g.1 c) ∧ ∀ c, c ≠ a → (m_s1 g a k x).2 c = g.2 c := ⟨fun c h => by simp [m_s1, h], fun c h => rfl⟩
theorem m_s2_o {g : mG} {a k : Nat} {x : Int64} : (∀ c, c ≠ a → (m_s2 g a k x).1 c = g.1 c) ∧ ∀ c, c ≠ a → (m_s2 g a k x).2 c = g.2 c := ⟨fun c h => rfl, fun c h => by simp [m_s2, h]⟩
theorem m_s1_s {g : mG} {a k : Nat} {x : Int32} : (m_s1 g a k x).1 a = upd (g.1 a) k x := by simp [m_s1]
theorem m_s2_s {g : mG} {a k : Nat} {x : Int64} : (m_s2 g a k x).2 a = vp_updL (g.2 a) k x := by simp [m_s2]
/-- every class of the list: its fields' types, and that their names are apart -/
def m_tyOf (ci : Nat) : Nat → FieldType := match ci with
  | 0 => tyX0
  | 1 => tyX1
  | 2 => tyX2
  | 3 => tyX3
  | 4 => tyX4
  | 5 => tyX5
  | 6 => tyX6
  | 7 => tyX7
  | 8 => tyX8
  | 9 => tyX9
  | 10 => tyX10
  | 11 => tyX11
  | _ => tyX12
def m_clOk (ci : Nat) (q : vw_C) : Prop := (∀ w ∈ u_ws q.1 q.2.1 q.2.2, w ∈ lw_tbl ∧ goodWord w = true) ∧ (∀ k, k < q.2.2 → parseFieldDescriptor (q.2.1 k).2.2.1 = some (m_tyOf ci k)) ∧ ∀ a, a < q.2.2 → ∀ b, b < q.2.2 → a ≠ b → (q.2.1 a).2.1 ≠ (q.2.1 b).2.1
/-- the shape's sorts, and that its fields are of the classes' types -/
theorem m_sh_sort {a t n : Nat} {rs : List Nat} (h : m_sh[a]? = some (t + 1, n, rs)) : t = 0 ∨ t = 1 ∨ t = 2 ∨ t = 3 ∨ t = 4 := by
  have h1 : (m_sh.all fun q => Nat.ble q.1 5) = true := by decide +kernel
  have h2 := List.all_eq_true.mp h1 _ (List.mem_of_getElem? h)
  have h3 : t + 1 ≤ 5 := Nat.le_of_ble_eq_true h2
  omega
def m_tyc (ci k q : Nat) : Bool := match q with
  | 0 => decide (m_tyOf ci k = .int)
  | 1 => decide (m_tyOf ci k = .long)
  | 2 => decide (m_tyOf ci k = .boolean)
  | _ => true
theorem m_sh_ty {a k q : Nat} {fs : List Nat} {ci : Nat} (h : m_sh[a]? = some (0, ci, fs)) (hf : fs[k]? = some q) : (q = 0 → m_tyOf ci k = .int) ∧ (q = 1 → m_tyOf ci k = .long) ∧ (q = 2 → m_tyOf ci k = .boolean) := by
  have h1 : (m_sh.all fun x => match x with
    | (0, c, fs) => (fs.mapIdx (fun k q => m_tyc c k q)).all id
    | _ => true) = true := by decide +kernel
  have h2 := List.all_eq_true.mp h1 _ (List.mem_of_getElem? h)
  have h2 : (fs.mapIdx (fun k q => m_tyc ci k q)).all id = true := h2
  have h3 : (fs.mapIdx (fun k q => m_tyc ci k q))[k]? = some (m_tyc ci k q) := by rw [List.getElem?_mapIdx, hf]; rfl
  have h4 : m_tyc ci k q = true := List.all_eq_true.mp h2 _ (List.mem_of_getElem? h3)
  refine ⟨fun e => ?_, fun e => ?_, fun e => ?_⟩ <;> subst e <;> exact of_decide_eq_true h4
def m_gt : List Jvm.Cond := lw_tbl.filter goodWord
theorem m_gt_in {w : Jvm.Cond} (h : w ∈ m_gt) : w ∈ lw_tbl ∧ goodWord w = true := List.mem_filter.mp h
theorem m_gt_of {w : Jvm.Cond} (h : w ∈ lw_tbl) (h2 : goodWord w = true) : w ∈ m_gt := List.mem_filter.mpr ⟨h, h2⟩
theorem m_in0 {C : String} {T : u_T} {N : Nat} (h : (List.range N).all (fun k => decide (u_lay C T k ∈ lw_tbl) && goodWord (u_lay C T k)) = true) : ∀ w ∈ u_ws C T N, w ∈ lw_tbl ∧ goodWord w = true := by
  intro w hw
  unfold u_ws at hw
  obtain ⟨k, hk, rfl⟩ := List.mem_map.mp hw
  have h1 := List.all_eq_true.mp h k hk
  simp only [Bool.and_eq_true, decide_eq_true_eq] at h1
  exact h1
theorem m_cl_ok : ∀ (ci : Nat) (q : vw_C), vwCl[ci]? = some q → m_clOk ci q := by
  intro ci q h
  match ci, h with
  | 0, h => cases h; exact ⟨m_in0 (by decide +kernel), tyX0_ok, nmX0⟩
  | 1, h => cases h; exact ⟨m_in0 (by decide +kernel), tyX1_ok, nmX1⟩
  | 2, h => cases h; exact ⟨m_in0 (by decide +kernel), tyX2_ok, nmX2⟩
  | 3, h => cases h; exact ⟨m_in0 (by decide +kernel), tyX3_ok, nmX3⟩
  | 4, h => cases h; exact ⟨m_in0 (by decide +kernel), tyX4_ok, nmX4⟩
  | 5, h => cases h; exact ⟨m_in0 (by decide +kernel), tyX5_ok, nmX5⟩
  | 6, h => cases h; exact ⟨m_in0 (by decide +kernel), tyX6_ok, nmX6⟩
  | 7, h => cases h; exact ⟨m_in0 (by decide +kernel), tyX7_ok, nmX7⟩
  | 8, h => cases h; exact ⟨m_in0 (by decide +kernel), tyX8_ok, nmX8⟩
  | 9, h => cases h; exact ⟨m_in0 (by decide +kernel), tyX9_ok, nmX9⟩
  | 10, h => cases h; exact ⟨m_in0 (by decide +kernel), tyX10_ok, nmX10⟩
  | 11, h => cases h; exact ⟨m_in0 (by decide +kernel), tyX11_ok, nmX11⟩
  | 12, h => cases h; exact ⟨m_in0 (by decide +kernel), tyX12_ok, nmX12⟩
  | n + 13, h => cases h
theorem m_fchk_inv {oc idx k pl : Nat} {nest : Bool} (h : m_fchk (oc, idx, k, pl, nest) = true) : ∃ q : vw_C, vwCl[k / 100]? = some q ∧ k % 100 < q.2.2 ∧ ((Jvm.Cond.fieldLink (m_own oc) idx (q.2.1 (k % 100)).1 (q.2.1 (k % 100)).2.1 (q.2.1 (k % 100)).2.2.1) ∈ lw_tbl ∨ (Jvm.Cond.fieldLinkNest (m_own oc) idx (q.2.1 (k % 100)).1 (q.2.1 (k % 100)).2.1 (q.2.1 (k % 100)).2.2.1 m_host) ∈ lw_tbl) := by
  unfold m_fchk at h
  dsimp only at h
  cases hc : vwCl[k / 100]? with
  | none => rw [hc] at h; cases h
  | some q =>
    rw [hc] at h
    obtain ⟨C, T, N⟩ := q
    dsimp only at h
    rw [Bool.and_eq_true, decide_eq_true_eq] at h
    refine ⟨_, rfl, h.1, ?_⟩
    cases nest with
    | false => exact Or.inl (m_wd_in (of_decide_eq_true h.2))
    | true => exact Or.inr (m_wd_in (of_decide_eq_true h.2))
theorem m_gchk_inv {oc idx k pl : Nat} {nest : Bool} (h : m_gchk (oc, idx, k, pl, nest) = true) : ∃ c n d ty vs, m_sa[k]? = some (c, n, d, ty, vs) ∧ ((Jvm.Cond.fieldLink (m_own oc) idx (m_own c) n d) ∈ lw_tbl ∨ (Jvm.Cond.fieldLinkNest (m_own oc) idx (m_own c) n d m_host) ∈ lw_tbl) := by
  unfold m_gchk at h
  dsimp only at h
  cases hc : m_sa[k]? with
  | none => rw [hc] at h; cases h
  | some q =>
    rw [hc] at h
    obtain ⟨c, n, d, ty, vs⟩ := q
    dsimp only at h
    refine ⟨c, n, d, ty, vs, rfl, ?_⟩
    cases nest with
    | false => exact Or.inl (m_wd_in (of_decide_eq_true h))
    | true => exact Or.inr (m_wd_in (of_decide_eq_true h))
theorem m_nfin_inv {k : Nat} {q : vw_C} (hc : vwCl[k / 100]? = some q) (h : m_nfin k = true) : (q.2.1 (k % 100)).2.2.2 = false := by
  unfold m_nfin at h
  rw [hc] at h
  obtain ⟨C, T, N⟩ := q
  dsimp only at h ⊢
  rwa [Bool.not_eq_true'] at h
section MA
variable {β : Type} {p : Program} {l : Launch} {e : Env} {R : Room} {s : State} {m : MethodId} {args : Array Value} {below : List Frame} {meth : Method} {c : Code} {H : Heap} {locs : List Loc} {cells slots : Nat} {Q : State → Prop} {ls : Array Slot} {D : va_G} {cA : Nat → ClassId} {ad : Nat → Nat} {A : Nat → Prop} {oc : Nat} {cc : ByteArray} {maxL pc : Nat} {sc : Option (Nat × (Nat → Int32))} {L S : List Value} {g : mG} {z : β}
theorem m_iald_sound {a : Nat} {i : Int32} {f : Int32 → Option β} (hx : p.tables.exec = Jvm.exec) (hb : c.code = cc) (hK : m_K D cA ad A s) (hS : va_S A s.heap H locs) (hsc : ∀ q, sc = some q → va_X (ad 999) q.1 q.2 s s.heap ∧ ad 999 < s.heap.size ∧ ¬ A (ad 999)) (hs : m_sh[a]? = none) (hd : decode cc pc = .ok (.iaload, 1))
    (h : (match m_sh[a]? with
      | some _ => m_arr 0 a fun n _ => m_in i n (f (g.1 a i.toNatClampNeg))
      | none => (match Nat.beq a 999 with
        | true => m_scl sc i f
        | false => m_stat a fun ty vs => (match ty with
          | .int => m_in i vs.length (f (vs.getD i.toNatClampNeg 0))
          | _ => none))) = some z)
    (kk : ∀ x, f x = some z → W p l e R s m args below meth c H locs cells slots Q (F0 m (pc + 1) ls (.int x :: S.map (m_tr ad)))) : W p l e R s m args below meth c H locs cells slots Q (F0 m pc ls (.int i :: .ref (ad a) :: S.map (m_tr ad))) := by
  rw [hs] at h
  dsimp only at h
  split at h
  · next hb9 =>
    have ha : a = 999 := Nat.eq_of_beq_eq_true hb9
    subst ha
    cases sc with
    | some q =>
      obtain ⟨hin, h⟩ := m_in_inv h
      obtain ⟨h1, h2, h3⟩ := hsc q rfl
      exact va_sld hx hb h1 h2 h3 hS hin hd (kk _ h)
    | none => cases h
  · obtain ⟨j, c1, n1, d1, ty, vs, rfl, hs, h⟩ := m_stat_inv h
    cases ty with
    | int =>
      obtain ⟨hin, h⟩ := m_in_inv h
      exact va_ti hx hb (hK.2.2 j c1 n1 d1 _ vs hs).2 hS hin rfl hd (kk _ h)
    | _ => cases h
theorem m_alen_sound {a : Nat} {f : Int32 → Option β} (hx : p.tables.exec = Jvm.exec) (hb : c.code = cc) (hK : m_K D cA ad A s) (hP : va_P D vwCl (m_w ad cA g) H) (hS : va_S A s.heap H locs) (hsc : ∀ q, sc = some q → va_X (ad 999) q.1 q.2 s s.heap ∧ ad 999 < s.heap.size ∧ ¬ A (ad 999)) (hd : decode cc pc = .ok (.arraylength, 1))
    (h : (match m_sh[a]? with
      | some (_ + 1, n, _) => f (Int32.ofNat n)
      | some (0, _, _) => none
      | none => (match Nat.beq a 999 with
        | true => m_scn sc f
        | false => none)) = some z)
    (kk : ∀ x, f x = some z → W p l e R s m args below meth c H locs cells slots Q (F0 m (pc + 1) ls (.int x :: S.map (m_tr ad)))) : W p l e R s m args below meth c H locs cells slots Q (F0 m pc ls (.ref (ad a) :: S.map (m_tr ad))) := by
  split at h
  · next t n rs hs =>
    have h1 := m_w_at (ad := ad) (cA := cA) (g := g) hs
    have hlen := m_sh_sort hs
    rcases hlen with rfl | rfl | rfl | rfl | rfl
    · exact va_alen hx hb hK.1 hP a 0 h1 (ty := .int) rfl rfl hd (kk _ h)
    · exact va_alen hx hb hK.1 hP a 1 h1 (ty := .byte) rfl rfl hd (kk _ h)
    · exact va_alen hx hb hK.1 hP a 2 h1 (ty := .short) rfl rfl hd (kk _ h)
    · exact va_alen hx hb hK.1 hP a 3 h1 (ty := .long) rfl rfl hd (kk _ h)
    · exact va_alen hx hb hK.1 hP a 4 h1 (ty := .object "NailedByWord$Shelf") rfl rfl hd (kk _ h)
  · cases h
  · cases hb9 : Nat.beq a 999 with
    | false => rw [hb9] at h; cases h
    | true =>
      rw [hb9] at h
      have ha : a = 999 := Nat.eq_of_beq_eq_true hb9
      subst ha
      cases sc with
      | none => cases h
      | some q =>
        obtain ⟨h1, h2, h3⟩ := hsc q rfl
        exact va_slen hx hb h1 h2 h3 hS hd (kk _ h)
theorem m_put_sound {k idx : Nat} {C : String} {T : u_T} {N : Nat} {κ : Nat → List Value → List Value → mG → Option β} (hx : p.tables.exec = Jvm.exec) (hb : c.code = cc) (hown : s.vm.findClass (m_own oc) = some m.cls) (hts : ∀ w ∈ lw_tbl, goodWord w = true → w.before args s = true) (hK : m_K D cA ad A s) (hD : ∀ g, va_D A (m_w ad cA g))
    (hP : va_P D vwCl (m_w ad cA g) H) (hS : va_S A s.heap H locs) (hl : m_lv ad ls maxL L) (hc : vwCl[k / 100]? = some (C, T, N)) (hN : k % 100 < N) (hw : (Jvm.Cond.fieldLink (m_own oc) idx (T (k % 100)).1 (T (k % 100)).2.1 (T (k % 100)).2.2.1) ∈ lw_tbl ∨ (Jvm.Cond.fieldLinkNest (m_own oc) idx (T (k % 100)).1 (T (k % 100)).2.1 (T (k % 100)).2.2.1 m_host) ∈ lw_tbl) (hfin : (T (k % 100)).2.2.2 = false) (hd : decode cc pc = .ok (.putfield idx, 3))
    (h : (match S with
      | .int x :: t => m_pa t fun a t => m_fld a k fun q => (match q with
        | 0 => κ (pc + 3) L t (m_s1 g a (k % 100) x)
        | 2 => if x = 1 then κ (pc + 3) L t (m_s1 g a (k % 100) x) else none
        | _ => none)
      | .long x :: t => m_pa t fun a t => m_fld a k fun q => (match q with
        | 1 => κ (pc + 3) L t (m_s2 g a (k % 100) x)
        | _ => none)
      | _ => none) = some z)
    (kk : ∀ (pc : Nat) (L : List Value) (S : List Value) (g : mG), κ pc L S g = some z → ∀ (H : Heap) (locs : List Loc) (ls : Array Slot), va_P D vwCl (m_w ad cA g) H → va_S A s.heap H locs → m_lv ad ls maxL L → W p l e R s m args below meth c H locs cells slots Q (F0 m pc ls (S.map (m_tr ad)))) :
    W p l e R s m args below meth c H locs cells slots Q (F0 m pc ls (S.map (m_tr ad))) := by
  have hok := m_cl_ok _ _ hc
  have ht : ∀ w ∈ m_gt, w.before args s = true := fun w h9 => hts w (m_gt_in h9).1 (m_gt_in h9).2
  have hin : ∀ w ∈ u_ws C T N, w ∈ m_gt := fun w h9 => m_gt_of (hok.1 w h9).1 (hok.1 w h9).2
  have key : ∀ (a q : Nat) (fs : List Nat) (v : Value) (g2 : mG) (t : List Value), m_sh[a]? = some (0, k / 100, fs) → fs[k % 100]? = some q → (m_fs ad g a fs).set (k % 100) v = m_fs ad g2 a fs → (∀ c, c ≠ a → g2.1 c = g.1 c) → (∀ c, c ≠ a → g2.2 c = g.2 c) → narrow (m_tyOf (k / 100) (k % 100)) v = v → fits (m_tyOf (k / 100) (k % 100)) v = true → κ (pc + 3) L t g2 = some z → W p l e R s m args below meth c H locs cells slots Q (F0 m pc ls (v :: .ref (ad a) :: t.map (m_tr ad))) := by
    intro a q fs v g2 t hs hf he h1 h2 hn hfit hk
    have hlt : k % 100 < (m_fs ad g a fs).length := by rw [m_fs_len]; exact (List.getElem?_eq_some_iff.mp hf).1
    have go : ∀ (H1 : Heap) (locs1 : List Loc), va_P D vwCl ((m_w ad cA g).set a (ad a, .inr (k / 100, (m_fs ad g a fs).set (k % 100) v))) H1 → va_D A ((m_w ad cA g).set a (ad a, .inr (k / 100, (m_fs ad g a fs).set (k % 100) v))) → va_S A s.heap H1 locs1 → W p l e R s m args below meth c H1 locs1 cells slots Q (F0 m (pc + 3) ls (t.map (m_tr ad))) := by
      intro H1 locs1 hP1 hD1 hS1
      refine kk _ _ _ _ hk _ _ _ ?_ hS1 hl
      rw [← m_w_set hs h1 h2]
      rw [he] at hP1
      exact hP1
    rcases hw with hw | hw
    · exact va_put hx hb ht hin (m_tyOf (k / 100)) hok.2.1 hok.2.2 hown hK.1 hP (hD g) hS a (m_w_at hs) hc (k % 100) hN (hts _ hw rfl) (fun _ h9 => h9) hfin (hok.2.1 _ hN) hn hfit hlt hd go
    · exact va_putN hx hb ht hin (m_tyOf (k / 100)) hok.2.1 hok.2.2 hown hK.1 hP (hD g) hS a (m_w_at hs) hc (k % 100) hN (va_Nw.use rfl (hK.2.1 _ hw rfl)) (fun _ h9 => h9) hfin (hok.2.1 _ hN) hn hfit hlt hd go
  split at h
  · next x t =>
    obtain ⟨a, t, rfl, h⟩ := m_pa_inv h
    obtain ⟨fs, q, hs, hf, h⟩ := m_fld_inv h
    have hty := m_sh_ty hs hf
    split at h
    · refine key a 0 fs (.int x) (m_s1 g a (k % 100) x) t hs hf (m_fs_set1 hf (Or.inl rfl)) m_s1_o.1 m_s1_o.2 ?_ ?_ h
      · rw [hty.1 rfl]; rfl
      · rw [hty.1 rfl]; rfl
    · split at h
      · next hx1 =>
        refine key a 2 fs (.int x) (m_s1 g a (k % 100) x) t hs hf (m_fs_set1 hf (Or.inr rfl)) m_s1_o.1 m_s1_o.2 ?_ ?_ h
        · rw [hty.2.2 rfl, hx1]; rfl
        · rw [hty.2.2 rfl, hx1]; rfl
      · cases h
    · cases h
  · next x t =>
    obtain ⟨a, t, rfl, h⟩ := m_pa_inv h
    obtain ⟨fs, q, hs, hf, h⟩ := m_fld_inv h
    have hty := m_sh_ty hs hf
    split at h
    · refine key a 1 fs (.long x) (m_s2 g a (k % 100) x) t hs hf (m_fs_set2 hf) m_s2_o.1 m_s2_o.2 ?_ ?_ h
      · rw [hty.2.1 rfl]; rfl
      · rw [hty.2.1 rfl]; rfl
    · cases h
  · cases h
end MA
