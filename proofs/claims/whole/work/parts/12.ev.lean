/-! THE SMALL MACHINE WITHOUT FUEL: ev, and how it goes on -/
section MM
variable {β : Type}
theorem m_pi_mono {S : List Value} {f f2 : Int32 → List Value → Option β} {z : β} (hf : ∀ x t, f x t = some z → f2 x t = some z) (h : m_pi S f = some z) : m_pi S f2 = some z := by
  obtain ⟨x, t, rfl, h⟩ := m_pi_inv h
  exact hf x t h
theorem m_pl_mono {S : List Value} {f f2 : Int64 → List Value → Option β} {z : β} (hf : ∀ x t, f x t = some z → f2 x t = some z) (h : m_pl S f = some z) : m_pl S f2 = some z := by
  obtain ⟨x, t, rfl, h⟩ := m_pl_inv h
  exact hf x t h
theorem m_pa_mono {S : List Value} {f f2 : Nat → List Value → Option β} {z : β} (hf : ∀ x t, f x t = some z → f2 x t = some z) (h : m_pa S f = some z) : m_pa S f2 = some z := by
  obtain ⟨x, t, rfl, h⟩ := m_pa_inv h
  exact hf x t h
theorem m_qi_mono {L : List Value} {k : Nat} {f f2 : Int32 → Option β} {z : β} (hf : ∀ x, f x = some z → f2 x = some z) (h : m_qi L k f = some z) : m_qi L k f2 = some z := by
  obtain ⟨x, e, h⟩ := m_qi_inv h
  unfold m_qi
  rw [e]
  exact hf x h
theorem m_ql_mono {L : List Value} {k : Nat} {f f2 : Int64 → Option β} {z : β} (hf : ∀ x, f x = some z → f2 x = some z) (h : m_ql L k f = some z) : m_ql L k f2 = some z := by
  obtain ⟨x, e, h⟩ := m_ql_inv h
  unfold m_ql
  rw [e]
  exact hf x h
theorem m_qa_mono {L : List Value} {k : Nat} {f f2 : Nat → Option β} {z : β} (hf : ∀ x, f x = some z → f2 x = some z) (h : m_qa L k f = some z) : m_qa L k f2 = some z := by
  obtain ⟨x, e, h⟩ := m_qa_inv h
  unfold m_qa
  rw [e]
  exact hf x h
theorem m_in_mono {i : Int32} {n : Nat} {x y : Option β} {z : β} (hf : x = some z → y = some z) (h : m_in i n x = some z) : m_in i n y = some z := by
  unfold m_in at h ⊢
  split at h
  · cases h
  · next e => rw [if_neg e]; exact hf h
theorem m_ite_mono {c : Prop} [Decidable c] {a b a2 b2 : Option β} {z : β} (h1 : a = some z → a2 = some z) (h2 : b = some z → b2 = some z) (h : (if c then a else b) = some z) : (if c then a2 else b2) = some z := by
  split at h
  · next e => rw [if_pos e]; exact h1 h
  · next e => rw [if_neg e]; exact h2 h
theorem m_sw_mono {x : Int32} {d : Nat} {f f2 : Nat → Option β} {z : β} (hf : ∀ t, f t = some z → f2 t = some z) : ∀ ts, m_sw x d f ts = some z → m_sw x d f2 ts = some z := by
  intro ts
  induction ts with
  | nil => exact hf d
  | cons q r ih =>
    unfold m_sw
    exact m_ite_mono (hf q.2) ih
theorem m_fld_mono {a k : Nat} {f f2 : Nat → Option β} {z : β} (hf : ∀ q, f q = some z → f2 q = some z) (h : m_fld a k f = some z) : m_fld a k f2 = some z := by
  obtain ⟨fs, q, h1, h2, h⟩ := m_fld_inv h
  unfold m_fld
  rw [h1]
  show (match Nat.beq (k / 100) (k / 100) with
    | true => (match fs[k % 100]? with
      | some q => f2 q
      | none => none)
    | false => none) = some z
  rw [Nat.beq_refl, h2]
  exact hf q h
theorem m_arr_mono {t a : Nat} {f f2 : Nat → List Nat → Option β} {z : β} (hf : ∀ n rs, f n rs = some z → f2 n rs = some z) (h : m_arr t a f = some z) : m_arr t a f2 = some z := by
  obtain ⟨n, rs, h1, h⟩ := m_arr_inv h
  unfold m_arr
  rw [h1]
  show (match Nat.beq t t with
    | true => f2 n rs
    | false => none) = some z
  rw [Nat.beq_refl]
  exact hf n rs h
theorem m_stat_mono {a : Nat} {f f2 : FieldType → List Int32 → Option β} {z : β} (hf : ∀ ty vs, f ty vs = some z → f2 ty vs = some z) (h : m_stat a f = some z) : m_stat a f2 = some z := by
  unfold m_stat at h ⊢
  split at h
  · split at h
    · exact hf _ _ h
    · cases h
  · cases h
theorem m_sel_mono {rs : List Nat} {k : Nat} {f f2 : Nat → Option β} {z : β} (hf : ∀ j, f j = some z → f2 j = some z) (h : m_sel rs k f = some z) : m_sel rs k f2 = some z := by
  obtain ⟨j, e, h⟩ := m_sel_inv h
  unfold m_sel
  rw [e]
  exact hf j h
theorem m_scl_mono {sc : Option (Nat × (Nat → Int32))} {i : Int32} {f f2 : Int32 → Option β} {z : β} (hf : ∀ x, f x = some z → f2 x = some z) (h : m_scl sc i f = some z) : m_scl sc i f2 = some z := by
  unfold m_scl at h ⊢
  cases sc with
  | none => cases h
  | some q => exact m_in_mono (hf _) h
theorem m_scn_mono {sc : Option (Nat × (Nat → Int32))} {f f2 : Int32 → Option β} {z : β} (hf : ∀ x, f x = some z → f2 x = some z) (h : m_scn sc f = some z) : m_scn sc f2 = some z := by
  unfold m_scn at h ⊢
  cases sc with
  | none => cases h
  | some q => exact hf _ h
set_option maxHeartbeats 4000000 in
theorem m_xs_mono {sc : Option (Nat × (Nat → Int32))} {o : mO} {L S : List Value} {g : mG} {κ κ2 : Nat → List Value → List Value → mG → Option β} {z : β} (hk : ∀ pc L S g, κ pc L S g = some z → κ2 pc L S g = some z) (h : m_xs sc o L S g κ = some z) : m_xs sc o L S g κ2 = some z := by
  obtain ⟨pc, i, len, k, v, w, ts⟩ := o
  unfold m_xs at h ⊢
  dsimp only at h ⊢
  cases i
  case ifCond cnd off =>
    cases cnd <;> dsimp only at h ⊢ <;> refine m_pi_mono (fun x t h => ?_) h <;> exact m_ite_mono (hk _ _ _ _) (hk _ _ _ _) h
  case if_icmp cnd off =>
    cases cnd <;> dsimp only at h ⊢ <;> refine m_pi_mono (fun x t h => ?_) h <;> refine m_pi_mono (fun x t h => ?_) h <;> exact m_ite_mono (hk _ _ _ _) (hk _ _ _ _) h
  case getfield idx =>
    refine m_pa_mono (fun a t h => m_fld_mono (fun q h => ?_) h) h
    match q, h with
    | 0, h => exact hk _ _ _ _ h
    | 1, h => exact hk _ _ _ _ h
    | 2, h => exact hk _ _ _ _ h
    | j + 3, h => exact hk _ _ _ _ h
  case putfield idx =>
    dsimp only at h ⊢
    split at h
    · refine m_pa_mono (fun a t h => m_fld_mono (fun q h => ?_) h) h
      match q, h with
      | 0, h => exact hk _ _ _ _ h
      | 1, h => cases h
      | 2, h => exact m_ite_mono (hk _ _ _ _) (fun e => e) h
      | j + 3, h => cases h
    · refine m_pa_mono (fun a t h => m_fld_mono (fun q h => ?_) h) h
      match q, h with
      | 0, h => cases h
      | 1, h => exact hk _ _ _ _ h
      | j + 2, h => cases h
    · cases h
  case iaload =>
    refine m_pi_mono (fun i t h => m_pa_mono (fun a t h => ?_) h) h
    split at h
    · next e => exact m_arr_mono (fun n rs h => m_in_mono (hk _ _ _ _) h) h
    · next e =>
      split at h
      · next e2 => exact m_scl_mono (fun x h => hk _ _ _ _ h) h
      · next e2 =>
        refine m_stat_mono (fun ty vs h => ?_) h
        cases ty <;> first | exact m_in_mono (hk _ _ _ _) h | cases h
  case caload =>
    refine m_pi_mono (fun i t h => m_pa_mono (fun a t h => m_stat_mono (fun ty vs h => ?_) h) h) h
    cases ty <;> first | exact m_in_mono (hk _ _ _ _) h | cases h
  case aaload =>
    exact m_pi_mono (fun i t h => m_pa_mono (fun a t h => m_arr_mono (fun n rs h => m_in_mono (fun h => m_sel_mono (fun j h => hk _ _ _ _ h) h) h) h) h) h
  case arraylength =>
    refine m_pa_mono (fun a t h => ?_) h
    split at h
    · exact hk _ _ _ _ h
    · cases h
    · split at h
      · exact m_scn_mono (fun x h => hk _ _ _ _ h) h
      · cases h
  case dup =>
    dsimp only at h ⊢
    cases S with
    | nil => cases h
    | cons x t =>
      dsimp only at h ⊢
      split at h
      · next e => exact hk _ _ _ _ h
      · cases h
  case pop =>
    dsimp only at h ⊢
    cases S with
    | nil => cases h
    | cons x t =>
      dsimp only at h ⊢
      split at h
      · next e => exact hk _ _ _ _ h
      · cases h
  case dup2 =>
    dsimp only at h ⊢
    match S, h with
    | [], h => cases h
    | [x], h => cases h
    | x :: y :: t, h =>
      dsimp only at h ⊢
      split at h
      · next e1 e2 => exact hk _ _ _ _ h
      · cases h
  all_goals first
    | exact hk _ _ _ _ h
    | exact m_qi_mono (fun x h => hk _ _ _ _ h) h
    | exact m_ql_mono (fun x h => hk _ _ _ _ h) h
    | exact m_qa_mono (fun x h => hk _ _ _ _ h) h
    | exact m_pi_mono (fun x t h => hk _ _ _ _ h) h
    | exact m_pl_mono (fun x t h => hk _ _ _ _ h) h
    | exact m_pa_mono (fun x t h => hk _ _ _ _ h) h
    | exact m_pi_mono (fun x t h => m_pi_mono (fun x t h => hk _ _ _ _ h) h) h
    | exact m_pl_mono (fun x t h => m_pl_mono (fun x t h => hk _ _ _ _ h) h) h
    | exact m_pi_mono (fun x t h => m_pl_mono (fun x t h => hk _ _ _ _ h) h) h
    | exact m_pi_mono (fun x t h => m_pi_mono (fun x t h => m_ite_mono (fun e => e) (hk _ _ _ _) h) h) h
    | exact m_pl_mono (fun x t h => m_pl_mono (fun x t h => m_ite_mono (fun e => e) (hk _ _ _ _) h) h) h
    | exact m_pi_mono (fun x t h => m_sw_mono (fun t h => hk _ _ _ _ h) _ h) h
    | exact m_pi_mono (fun x t h => m_pa_mono (fun a t h => m_arr_mono (fun n rs h => m_in_mono (hk _ _ _ _) h) h) h) h
    | exact m_pi_mono (fun x t h => m_pi_mono (fun x t h => m_pa_mono (fun a t h => m_arr_mono (fun n rs h => m_in_mono (hk _ _ _ _) h) h) h) h) h
    | exact m_pl_mono (fun x t h => m_pi_mono (fun x t h => m_pa_mono (fun a t h => m_arr_mono (fun n rs h => m_in_mono (hk _ _ _ _) h) h) h) h) h
    | cases h
end MM
theorem m_copy_mono {β : Type} {S : List Value} {g : mG} {κ κ2 : List Value → mG → Option β} {z : β} (hk : ∀ S g, κ S g = some z → κ2 S g = some z) (h : m_copy S g κ = some z) : m_copy S g κ2 = some z := by
  unfold m_copy at h ⊢
  exact m_pi_mono (fun _ _ h => m_pi_mono (fun _ _ h => m_pa_mono (fun _ _ h => m_pi_mono (fun _ _ h => m_pa_mono (fun _ _ h => m_arr_mono (fun _ _ h => m_arr_mono (fun _ _ h => m_ite_mono (fun e => e) (hk _ _) h) h) h) h) h) h) h) h
theorem m_spec_mono {β : Type} {k : Nat} {S : List Value} {g : mG} {κ κ2 : List Value → mG → Option β} {z : β} (hk : ∀ S g, κ S g = some z → κ2 S g = some z) (h : m_spec k S g κ = some z) : m_spec k S g κ2 = some z := by
  unfold m_spec at h ⊢
  split at h
  · exact m_copy_mono hk h
  · refine m_pi_mono (fun _ _ h => m_pi_mono (fun _ t h => ?_) h) h
    split at h
    · next e => exact hk _ _ h
    · cases h
  · refine m_pi_mono (fun _ _ h => m_pi_mono (fun _ t h => ?_) h) h
    split at h
    · next e => exact hk _ _ h
    · cases h
  · refine m_pi_mono (fun _ t h => ?_) h
    split at h
    · next e => exact hk _ _ h
    · cases h
theorem m_call_mono {v : Bool} {d k : Nat} {S : List Value} {g : mG} {run run2 : Nat → mM → List Value → mG → Option (Option Value × mG)} {κ κ2 : List Value → mG → Option (Option Value × mG)} {z : Option Value × mG} (hr : ∀ d m2 as g q, run d m2 as g = some q → run2 d m2 as g = some q) (hk : ∀ S g, κ S g = some z → κ2 S g = some z) (h : m_call v d k S g run κ = some z) : m_call v d k S g run2 κ2 = some z := by
  cases d with
  | zero => cases h
  | succ d =>
    unfold m_call at h ⊢
    dsimp only at h ⊢
    split at h
    · exact m_spec_mono hk h
    · split at h
      · cases h
      · next m2 e2 =>
        split at h
        · cases h
        · next as rest e3 =>
          split at h
          · cases h
          · unfold m_bnd at h ⊢
            cases hq : run d m2 as g with
            | none => rw [hq] at h; cases h
            | some q =>
              rw [hq] at h
              rw [hr _ _ _ _ _ hq]
              exact hk _ _ h
def m_body (rec : Option (Nat × (Nat → Int32)) → Nat → mM → Nat → List Value → List Value → mG → Option (Option Value × mG)) (sc : Option (Nat × (Nat → Int32))) (d : Nat) (mm : mM) (pc : Nat) (L S : List Value) (g : mG) : Option (Option Value × mG) := match m_fetch mm.2.2.2.2.2.2.2 pc with
    | none => none
    | some o => match m_k o.2.1 with
      | 0 => m_xs sc o L S g (fun pc L S g => rec sc d mm pc L S g)
      | 1 => (match S, mm.2.2.2.2.1 with
        | [], none => some (none, g)
        | _, _ => none)
      | 2 => (match S with
        | [.int x] => (match mm.2.2.2.2.1 with
          | some .int => some (some (.int x), g)
          | some .boolean => if x &&& 1 = x then some (some (.int x), g) else none
          | _ => none)
        | _ => none)
      | 3 => (match S with
        | [.long x] => (match mm.2.2.2.2.1 with
          | some .long => some (some (.long x), g)
          | _ => none)
        | _ => none)
      | 4 => (match S with
        | [.ref x] => (match mm.2.2.2.2.1 with
          | some (.object _) => some (some (.ref x), g)
          | _ => none)
        | _ => none)
      | 5 => m_call true d o.2.2.2.1 S g (fun d m2 as g => rec none d m2 0 (m_ent m2.2.2.2.1 as) [] g) (fun S g => rec sc d mm (pc + 3) L S g)
      | _ => m_call false d o.2.2.2.1 S g (fun d m2 as g => rec none d m2 0 (m_ent m2.2.2.2.1 as) [] g) (fun S g => rec sc d mm (pc + 3) L S g)
theorem m_ex_body (n : Nat) (sc : Option (Nat × (Nat → Int32))) (d : Nat) (mm : mM) (pc : Nat) (L S : List Value) (g : mG) : m_ex (n + 1) sc d mm pc L S g = m_body (m_ex n) sc d mm pc L S g := rfl
theorem m_body_mono {r1 r2 : Option (Nat × (Nat → Int32)) → Nat → mM → Nat → List Value → List Value → mG → Option (Option Value × mG)} (ih : ∀ sc d mm pc L S g z, r1 sc d mm pc L S g = some z → r2 sc d mm pc L S g = some z) {sc : Option (Nat × (Nat → Int32))} {d : Nat} {mm : mM} {pc : Nat} {L S : List Value} {g : mG} {z : Option Value × mG} (h : m_body r1 sc d mm pc L S g = some z) : m_body r2 sc d mm pc L S g = some z := by
  unfold m_body at h ⊢
  split at h
  · cases h
  · split at h
    · exact m_xs_mono (fun pc L S g h => ih _ _ _ _ _ _ _ _ h) h
    · exact h
    · exact h
    · exact h
    · exact h
    · exact m_call_mono (fun d m2 as g q h => ih _ _ _ _ _ _ _ _ h) (fun S g h => ih _ _ _ _ _ _ _ _ h) h
    · exact m_call_mono (fun d m2 as g q h => ih _ _ _ _ _ _ _ _ h) (fun S g h => ih _ _ _ _ _ _ _ _ h) h
theorem m_ex_succ : ∀ (n : Nat) (sc : Option (Nat × (Nat → Int32))) (d : Nat) (mm : mM) (pc : Nat) (L S : List Value) (g : mG) (z : Option Value × mG), m_ex n sc d mm pc L S g = some z → m_ex (n + 1) sc d mm pc L S g = some z := by
  intro n
  induction n with
  | zero => intro sc d mm pc L S g z h; cases h
  | succ n ih =>
    intro sc d mm pc L S g z h
    rw [m_ex_body] at h ⊢
    exact m_body_mono ih h
theorem m_ex_add {n : Nat} {sc : Option (Nat × (Nat → Int32))} {d : Nat} {mm : mM} {pc : Nat} {L S : List Value} {g : mG} {z : Option Value × mG} (h : m_ex n sc d mm pc L S g = some z) : ∀ k, m_ex (n + k) sc d mm pc L S g = some z := by
  intro k
  induction k with
  | zero => exact h
  | succ k ih => exact m_ex_succ _ _ _ _ _ _ _ _ _ ih
/-- where a row of answers that only grows comes to -/
noncomputable def m_lim (f : Nat → Option (Option Value × mG)) : Option (Option Value × mG) := match Classical.propDecidable (∃ z, ∃ n, f n = some z) with
  | .isTrue h => some (Classical.choose h)
  | .isFalse _ => none
def m_mon (f : Nat → Option (Option Value × mG)) : Prop := ∀ n z, f n = some z → ∀ k, f (n + k) = some z
theorem m_lim_of {f : Nat → Option (Option Value × mG)} (hf : m_mon f) {n : Nat} {z : Option Value × mG} (h : f n = some z) : m_lim f = some z := by
  unfold m_lim
  split
  · next h2 _ =>
    obtain ⟨n2, h3⟩ := Classical.choose_spec h2
    have h4 := hf n z h n2
    have h5 := hf n2 _ h3 n
    rw [Nat.add_comm, h4] at h5
    rw [Option.some.inj h5]
  · next h2 _ => exact absurd ⟨z, n, h⟩ h2
theorem m_lim_inv {f : Nat → Option (Option Value × mG)} {z : Option Value × mG} (h : m_lim f = some z) : ∃ n, f n = some z := by
  unfold m_lim at h
  split at h
  · next h2 _ =>
    obtain ⟨n, h3⟩ := Classical.choose_spec h2
    cases h
    exact ⟨n, h3⟩
  · cases h
theorem m_lim_eq {f f2 : Nat → Option (Option Value × mG)} (hf : m_mon f) (hf2 : m_mon f2) (h : ∀ z, (∃ n, f n = some z) ↔ ∃ n, f2 n = some z) : m_lim f = m_lim f2 := by
  cases h1 : m_lim f with
  | some z =>
    obtain ⟨n, h2⟩ := (h z).mp (m_lim_inv h1)
    exact (m_lim_of hf2 h2).symm
  | none =>
    cases h3 : m_lim f2 with
    | none => rfl
    | some z =>
      obtain ⟨n, h2⟩ := (h z).mpr (m_lim_inv h3)
      rw [m_lim_of hf h2] at h1
      cases h1
/-- what the small machine comes to from here -/
noncomputable def ev (sc : Option (Nat × (Nat → Int32))) (d : Nat) (mm : mM) (pc : Nat) (L S : List Value) (g : mG) : Option (Option Value × mG) := m_lim (fun n => m_ex n sc d mm pc L S g)
theorem m_ex_mon (k : Nat) (sc : Option (Nat × (Nat → Int32))) (d : Nat) (mm : mM) (pc : Nat) (L S : List Value) (g : mG) : m_mon (fun n => m_ex (n + k) sc d mm pc L S g) := fun n z h j => by
  have := m_ex_add h j
  show m_ex (n + j + k) sc d mm pc L S g = some z
  rw [show n + j + k = n + k + j by omega]
  exact this
theorem ev_inv {sc : Option (Nat × (Nat → Int32))} {d : Nat} {mm : mM} {pc : Nat} {L S : List Value} {g : mG} {z : Option Value × mG} (h : ev sc d mm pc L S g = some z) : ∃ n, m_ex n sc d mm pc L S g = some z := m_lim_inv h
theorem lm_ex (k : Nat) (sc : Option (Nat × (Nat → Int32))) (d : Nat) (mm : mM) (pc : Nat) (L S : List Value) (g : mG) : m_lim (fun n => m_ex (n + k) sc d mm pc L S g) = ev sc d mm pc L S g := by
  refine m_lim_eq (m_ex_mon k sc d mm pc L S g) (m_ex_mon 0 sc d mm pc L S g) (fun z => ⟨fun ⟨n, h⟩ => ⟨n + k, h⟩, fun ⟨n, h⟩ => ⟨n, m_ex_add h k⟩⟩)
theorem lm_some (z : Option Value × mG) : m_lim (fun _ => some z) = some z := m_lim_of (f := fun _ => some z) (fun _ _ h _ => h) (n := 0) rfl
theorem lm_none : m_lim (fun _ => none) = none := by
  cases h : m_lim (fun _ => none) with
  | none => rfl
  | some z => obtain ⟨n, h2⟩ := m_lim_inv h; cases h2
theorem lm_ite {c : Prop} [Decidable c] (f f2 : Nat → Option (Option Value × mG)) : m_lim (fun n => if c then f n else f2 n) = if c then m_lim f else m_lim f2 := by
  by_cases h : c <;> simp only [h, if_true, if_false]
theorem lm_in (i : Int32) (N : Nat) (f : Nat → Option (Option Value × mG)) : m_lim (fun n => m_in i N (f n)) = m_in i N (m_lim f) := by
  unfold m_in
  rw [lm_ite, lm_none]
theorem lm_bnd (k j : Nat) (sc : Option (Nat × (Nat → Int32))) (d d2 : Nat) (m2 mm : mM) (pc : Nat) (L L2 : List Value) (st : Option Value → List Value) (g : mG) : m_lim (fun n => m_bnd (m_ex (n + k) none d m2 0 L2 [] g) (fun r g2 => m_ex (n + j) sc d2 mm pc L (st r) g2)) = m_bnd (ev none d m2 0 L2 [] g) (fun r g2 => ev sc d2 mm pc L (st r) g2) := by
  have hm : m_mon (fun n => m_bnd (m_ex (n + k) none d m2 0 L2 [] g) (fun r g2 => m_ex (n + j) sc d2 mm pc L (st r) g2)) := by
    intro n z h i
    dsimp only at h ⊢
    unfold m_bnd at h ⊢
    cases hq : m_ex (n + k) none d m2 0 L2 [] g with
    | none => rw [hq] at h; cases h
    | some q =>
      rw [hq] at h
      have h8 : m_ex (n + i + k) none d m2 0 L2 [] g = some q := m_ex_mon k none d m2 0 L2 [] g n q hq i
      rw [h8]
      exact m_ex_mon j sc d2 mm pc L (st q.1) q.2 n z h i
  cases hq : ev none d m2 0 L2 [] g with
  | none =>
    show _ = none
    cases h : m_lim (fun n => m_bnd (m_ex (n + k) none d m2 0 L2 [] g) (fun r g2 => m_ex (n + j) sc d2 mm pc L (st r) g2)) with
    | none => rfl
    | some z =>
      obtain ⟨n, h2⟩ := m_lim_inv h
      unfold m_bnd at h2
      cases hq2 : m_ex (n + k) none d m2 0 L2 [] g with
      | none => rw [hq2] at h2; cases h2
      | some q =>
        have h3 : ev none d m2 0 L2 [] g = some q := m_lim_of (m_ex_mon 0 none d m2 0 L2 [] g) hq2
        rw [hq] at h3
        cases h3
  | some q =>
    show _ = ev sc d2 mm pc L (st q.1) q.2
    obtain ⟨n1, h1⟩ := ev_inv hq
    refine m_lim_eq hm (m_ex_mon 0 sc d2 mm pc L (st q.1) q.2) (fun z => ⟨fun ⟨n, h⟩ => ?_, fun ⟨n, h⟩ => ?_⟩)
    · unfold m_bnd at h
      cases hq2 : m_ex (n + k) none d m2 0 L2 [] g with
      | none => rw [hq2] at h; cases h
      | some q2 =>
        have h3 := m_ex_add hq2 n1
        have h4 := m_ex_add h1 (n + k)
        rw [Nat.add_comm, h4] at h3
        cases h3
        rw [hq2] at h
        exact ⟨n + j, h⟩
    · refine ⟨n + n1, ?_⟩
      unfold m_bnd
      have h4 := m_ex_add h1 (n + k)
      rw [show n + n1 + k = n1 + (n + k) by omega, h4]
      have h5 := m_ex_add h (n1 + j)
      rw [show n + n1 + j = n + (n1 + j) by omega]
      exact h5
theorem lm_sel (rs : List Nat) (k : Nat) (f : Nat → Nat → Option (Option Value × mG)) : m_lim (fun n => m_sel rs k (fun j => f n j)) = m_sel rs k (fun j => m_lim (fun n => f n j)) := by
  unfold m_sel
  cases rs[k]? with
  | none => exact lm_none
  | some j => rfl
/-- a block: k steps, then what stands there -/
theorem ev_blk {sc : Option (Nat × (Nat → Int32))} {d : Nat} {mm : mM} {pc : Nat} {L S : List Value} {g : mG} (k : Nat) {f : Nat → Option (Option Value × mG)} {x : Option (Option Value × mG)} (h : ∀ n, m_ex (n + k) sc d mm pc L S g = f n) (hx : m_lim f = x) : ev sc d mm pc L S g = x := by
  rw [← lm_ex k, ← hx]
  congr 1
  funext n
  exact h n
