/-! THE SMALL MACHINE WITHOUT FUEL: ev, and how it goes on -/
section MM
variable {β γ : Type} {P : Option γ → Prop}
theorem m_pi_par {S : List Value} {f : Int32 → List Value → Option β} {f2 : Int32 → List Value → Option γ} {z : β} (hf : ∀ x t, f x t = some z → P (f2 x t)) (h : m_pi S f = some z) : P (m_pi S f2) := by
  obtain ⟨x, t, rfl, h⟩ := m_pi_inv h
  exact hf x t h
theorem m_pl_par {S : List Value} {f : Int64 → List Value → Option β} {f2 : Int64 → List Value → Option γ} {z : β} (hf : ∀ x t, f x t = some z → P (f2 x t)) (h : m_pl S f = some z) : P (m_pl S f2) := by
  obtain ⟨x, t, rfl, h⟩ := m_pl_inv h
  exact hf x t h
theorem m_pa_par {S : List Value} {f : Nat → List Value → Option β} {f2 : Nat → List Value → Option γ} {z : β} (hf : ∀ x t, f x t = some z → P (f2 x t)) (h : m_pa S f = some z) : P (m_pa S f2) := by
  obtain ⟨x, t, rfl, h⟩ := m_pa_inv h
  exact hf x t h
theorem m_qi_par {L : List Value} {k : Nat} {f : Int32 → Option β} {f2 : Int32 → Option γ} {z : β} (hf : ∀ x, f x = some z → P (f2 x)) (h : m_qi L k f = some z) : P (m_qi L k f2) := by
  obtain ⟨x, e, h⟩ := m_qi_inv h
  unfold m_qi
  rw [e]
  exact hf x h
theorem m_ql_par {L : List Value} {k : Nat} {f : Int64 → Option β} {f2 : Int64 → Option γ} {z : β} (hf : ∀ x, f x = some z → P (f2 x)) (h : m_ql L k f = some z) : P (m_ql L k f2) := by
  obtain ⟨x, e, h⟩ := m_ql_inv h
  unfold m_ql
  rw [e]
  exact hf x h
theorem m_qa_par {L : List Value} {k : Nat} {f : Nat → Option β} {f2 : Nat → Option γ} {z : β} (hf : ∀ x, f x = some z → P (f2 x)) (h : m_qa L k f = some z) : P (m_qa L k f2) := by
  obtain ⟨x, e, h⟩ := m_qa_inv h
  unfold m_qa
  rw [e]
  exact hf x h
theorem m_in_par {i : Int32} {n : Nat} {x : Option β} {y : Option γ} {z : β} (hf : x = some z → P y) (h : m_in i n x = some z) : P (m_in i n y) := by
  unfold m_in at h ⊢
  split at h
  · cases h
  · next e => rw [if_neg e]; exact hf h
theorem m_ite_par {c : Prop} [Decidable c] {a b : Option β} {a2 b2 : Option γ} {z : β} (h1 : a = some z → P a2) (h2 : b = some z → P b2) (h : (if c then a else b) = some z) : P (if c then a2 else b2) := by
  split at h
  · next e => rw [if_pos e]; exact h1 h
  · next e => rw [if_neg e]; exact h2 h
theorem m_if_par {c : Prop} {a b : Option β} {a2 b2 : Option γ} {z : β} (h1 : a = some z → P a2) (h2 : b = some z → P b2) (h : m_if c a b = some z) : P (m_if c a2 b2) := by
  by_cases e : c
  · rw [m_if_pos e] at h ⊢; exact h1 h
  · rw [m_if_neg e] at h ⊢; exact h2 h
theorem m_sw_par {x : Int32} {d : Nat} {f : Nat → Option β} {f2 : Nat → Option γ} {z : β} (hf : ∀ t, f t = some z → P (f2 t)) : ∀ ts, m_sw x d f ts = some z → P (m_sw x d f2 ts) := by
  intro ts
  induction ts with
  | nil => exact hf d
  | cons q r ih =>
    unfold m_sw
    exact m_if_par (hf q.2) ih
theorem m_fld_par {a k : Nat} {f : Nat → Option β} {f2 : Nat → Option γ} {z : β} (hf : ∀ q, f q = some z → P (f2 q)) (h : m_fld a k f = some z) : P (m_fld a k f2) := by
  obtain ⟨fs, q, h1, h2, h⟩ := m_fld_inv h
  unfold m_fld
  rw [h1]
  show P (match Nat.beq (k / 100) (k / 100) with
    | true => (match fs[k % 100]? with
      | some q => f2 q
      | none => none)
    | false => none)
  rw [Nat.beq_refl, h2]
  exact hf q h
theorem m_arr_par {t a : Nat} {f : Nat → List Nat → Option β} {f2 : Nat → List Nat → Option γ} {z : β} (hf : ∀ n rs, f n rs = some z → P (f2 n rs)) (h : m_arr t a f = some z) : P (m_arr t a f2) := by
  obtain ⟨n, rs, h1, h⟩ := m_arr_inv h
  unfold m_arr
  rw [h1]
  show P (match Nat.beq t t with
    | true => f2 n rs
    | false => none)
  rw [Nat.beq_refl]
  exact hf n rs h
theorem m_stat_par {a : Nat} {f : FieldType → List Int32 → Option β} {f2 : FieldType → List Int32 → Option γ} {z : β} (hf : ∀ ty vs, f ty vs = some z → P (f2 ty vs)) (h : m_stat a f = some z) : P (m_stat a f2) := by
  unfold m_stat at h ⊢
  split at h
  · split at h
    · exact hf _ _ h
    · cases h
  · cases h
theorem m_sel_par {rs : List Nat} {k : Nat} {f : Nat → Option β} {f2 : Nat → Option γ} {z : β} (hf : ∀ j, f j = some z → P (f2 j)) (h : m_sel rs k f = some z) : P (m_sel rs k f2) := by
  obtain ⟨j, e, h⟩ := m_sel_inv h
  unfold m_sel
  rw [e]
  exact hf j h
theorem m_scl_par {sc : Option (Nat × (Nat → Int32))} {i : Int32} {f : Int32 → Option β} {f2 : Int32 → Option γ} {z : β} (hf : ∀ x, f x = some z → P (f2 x)) (h : m_scl sc i f = some z) : P (m_scl sc i f2) := by
  unfold m_scl at h ⊢
  cases sc with
  | none => cases h
  | some q => exact m_in_par (hf _) h
theorem m_scn_par {sc : Option (Nat × (Nat → Int32))} {f : Int32 → Option β} {f2 : Int32 → Option γ} {z : β} (hf : ∀ x, f x = some z → P (f2 x)) (h : m_scn sc f = some z) : P (m_scn sc f2) := by
  unfold m_scn at h ⊢
  cases sc with
  | none => cases h
  | some q => exact hf _ h
set_option maxHeartbeats 4000000 in
theorem m_xs_par {sc : Option (Nat × (Nat → Int32))} {o : mO} {L S : List Value} {g : mG} {κ : Nat → List Value → List Value → mG → Option β} {κ2 : Nat → List Value → List Value → mG → Option γ} {z : β} (hk : ∀ pc L S g, κ pc L S g = some z → P (κ2 pc L S g)) (h : m_xs sc o L S g κ = some z) : P (m_xs sc o L S g κ2) := by
  obtain ⟨pc, i, len, k, v, w, ts⟩ := o
  unfold m_xs at h ⊢
  dsimp only at h ⊢
  cases i
  case ifCond cnd off =>
    cases cnd <;> dsimp only at h ⊢ <;> refine m_pi_par (fun x t h => ?_) h <;> exact m_if_par (hk _ _ _ _) (hk _ _ _ _) h
  case if_icmp cnd off =>
    cases cnd <;> dsimp only at h ⊢ <;> refine m_pi_par (fun x t h => ?_) h <;> refine m_pi_par (fun x t h => ?_) h <;> exact m_if_par (hk _ _ _ _) (hk _ _ _ _) h
  case getfield idx =>
    refine m_pa_par (fun a t h => m_fld_par (fun q h => ?_) h) h
    match q, h with
    | 0, h => exact hk _ _ _ _ h
    | 1, h => exact hk _ _ _ _ h
    | 2, h => exact hk _ _ _ _ h
    | j + 3, h => exact hk _ _ _ _ h
  case putfield idx =>
    dsimp only at h ⊢
    split at h
    · refine m_pa_par (fun a t h => m_fld_par (fun q h => ?_) h) h
      match q, h with
      | 0, h => exact hk _ _ _ _ h
      | 1, h => cases h
      | 2, h => exact m_ite_par (hk _ _ _ _) (fun e => by cases e) h
      | j + 3, h => cases h
    · refine m_pa_par (fun a t h => m_fld_par (fun q h => ?_) h) h
      match q, h with
      | 0, h => cases h
      | 1, h => exact hk _ _ _ _ h
      | j + 2, h => cases h
    · cases h
  case iaload =>
    refine m_pi_par (fun i t h => m_pa_par (fun a t h => ?_) h) h
    split at h
    · next e => exact m_arr_par (fun n rs h => m_in_par (hk _ _ _ _) h) h
    · next e =>
      split at h
      · next e2 => exact m_scl_par (fun x h => hk _ _ _ _ h) h
      · next e2 =>
        refine m_stat_par (fun ty vs h => ?_) h
        cases ty <;> first | exact m_in_par (hk _ _ _ _) h | cases h
  case caload =>
    refine m_pi_par (fun i t h => m_pa_par (fun a t h => m_stat_par (fun ty vs h => ?_) h) h) h
    cases ty <;> first | exact m_in_par (hk _ _ _ _) h | cases h
  case aaload =>
    exact m_pi_par (fun i t h => m_pa_par (fun a t h => m_arr_par (fun n rs h => m_in_par (fun h => m_sel_par (fun j h => hk _ _ _ _ h) h) h) h) h) h
  case arraylength =>
    refine m_pa_par (fun a t h => ?_) h
    split at h
    · exact hk _ _ _ _ h
    · cases h
    · split at h
      · exact m_scn_par (fun x h => hk _ _ _ _ h) h
      · cases h
  case dup =>
    dsimp only at h ⊢
    cases S with
    | nil => cases h
    | cons x t =>
      dsimp only at h ⊢
      split at h
      · next e => exact hk _ _ _ _ h
      · cases h
  case pop =>
    dsimp only at h ⊢
    cases S with
    | nil => cases h
    | cons x t =>
      dsimp only at h ⊢
      split at h
      · next e => exact hk _ _ _ _ h
      · cases h
  case dup2 =>
    dsimp only at h ⊢
    match S, h with
    | [], h => cases h
    | [x], h => cases h
    | x :: y :: t, h =>
      dsimp only at h ⊢
      split at h
      · next e1 e2 => exact hk _ _ _ _ h
      · cases h
  all_goals first
    | exact hk _ _ _ _ h
    | exact m_qi_par (fun x h => hk _ _ _ _ h) h
    | exact m_ql_par (fun x h => hk _ _ _ _ h) h
    | exact m_qa_par (fun x h => hk _ _ _ _ h) h
    | exact m_pi_par (fun x t h => hk _ _ _ _ h) h
    | exact m_pl_par (fun x t h => hk _ _ _ _ h) h
    | exact m_pa_par (fun x t h => hk _ _ _ _ h) h
    | exact m_pi_par (fun x t h => m_pi_par (fun x t h => hk _ _ _ _ h) h) h
    | exact m_pl_par (fun x t h => m_pl_par (fun x t h => hk _ _ _ _ h) h) h
    | exact m_pi_par (fun x t h => m_pl_par (fun x t h => hk _ _ _ _ h) h) h
    | exact m_pi_par (fun x t h => m_pi_par (fun x t h => m_ite_par (fun e => by cases e) (hk _ _ _ _) h) h) h
    | exact m_pl_par (fun x t h => m_pl_par (fun x t h => m_ite_par (fun e => by cases e) (hk _ _ _ _) h) h) h
    | exact m_pi_par (fun x t h => m_sw_par (fun t h => hk _ _ _ _ h) _ h) h
    | exact m_pi_par (fun x t h => m_pa_par (fun a t h => m_arr_par (fun n rs h => m_in_par (hk _ _ _ _) h) h) h) h
    | exact m_pi_par (fun x t h => m_pi_par (fun x t h => m_pa_par (fun a t h => m_arr_par (fun n rs h => m_in_par (hk _ _ _ _) h) h) h) h) h
    | exact m_pl_par (fun x t h => m_pi_par (fun x t h => m_pa_par (fun a t h => m_arr_par (fun n rs h => m_in_par (hk _ _ _ _) h) h) h) h) h
    | cases h
end MM
theorem m_copy_par {β γ : Type} {P : Option γ → Prop} {S : List Value} {g : mG} {κ : List Value → mG → Option β} {κ2 : List Value → mG → Option γ} {z : β} (hk : ∀ S g, κ S g = some z → P (κ2 S g)) (h : m_copy S g κ = some z) : P (m_copy S g κ2) := by
  unfold m_copy at h ⊢
  exact m_pi_par (fun _ _ h => m_pi_par (fun _ _ h => m_pa_par (fun _ _ h => m_pi_par (fun _ _ h => m_pa_par (fun _ _ h => m_arr_par (fun _ _ h => m_arr_par (fun _ _ h => m_ite_par (fun e => by cases e) (hk _ _) h) h) h) h) h) h) h) h
theorem m_spec_par {β γ : Type} {P : Option γ → Prop} {k : Nat} {S : List Value} {g : mG} {κ : List Value → mG → Option β} {κ2 : List Value → mG → Option γ} {z : β} (hk : ∀ S g, κ S g = some z → P (κ2 S g)) (h : m_spec k S g κ = some z) : P (m_spec k S g κ2) := by
  unfold m_spec at h ⊢
  split at h
  · exact m_copy_par hk h
  · refine m_pi_par (fun _ _ h => m_pi_par (fun _ t h => ?_) h) h
    split at h
    · next e => exact hk _ _ h
    · cases h
  · refine m_pi_par (fun _ _ h => m_pi_par (fun _ t h => ?_) h) h
    split at h
    · next e => exact hk _ _ h
    · cases h
  · refine m_pi_par (fun _ t h => ?_) h
    split at h
    · next e => exact hk _ _ h
    · cases h
/-- an instruction goes on at one place -/
theorem m_xs_fac {β : Type} {sc : Option (Nat × (Nat → Int32))} {o : mO} {L S : List Value} {g : mG} {κ : Nat → List Value → List Value → mG → Option β} {z : β} (h : m_xs sc o L S g κ = some z) : ∃ pc L2 S2 g2, κ pc L2 S2 g2 = some z ∧ ∀ κ2 : Nat → List Value → List Value → mG → Option β, m_xs sc o L S g κ2 = κ2 pc L2 S2 g2 := by
  obtain ⟨pc, L2, S2, g2, h1, h2⟩ := m_xs_par (γ := Nat × List Value × List Value × mG) (P := fun x => ∃ pc L2 S2 g2, x = some (pc, L2, S2, g2) ∧ κ pc L2 S2 g2 = some z) (κ2 := fun pc L S g => some (pc, L, S, g)) (fun pc L S g h => ⟨pc, L, S, g, rfl, h⟩) h
  exact ⟨pc, L2, S2, g2, h2, fun κ2 => m_xs_par (P := fun x => x = κ2 pc L2 S2 g2) (κ2 := κ2) (fun pc3 L3 S3 g3 h3 => by cases h3; rfl) h1⟩
theorem m_spec_fac {β : Type} {k : Nat} {S : List Value} {g : mG} {κ : List Value → mG → Option β} {z : β} (h : m_spec k S g κ = some z) : ∃ S2 g2, κ S2 g2 = some z ∧ ∀ κ2 : List Value → mG → Option β, m_spec k S g κ2 = κ2 S2 g2 := by
  obtain ⟨S2, g2, h1, h2⟩ := m_spec_par (γ := List Value × mG) (P := fun x => ∃ S2 g2, x = some (S2, g2) ∧ κ S2 g2 = some z) (κ2 := fun S g => some (S, g)) (fun S g h => ⟨S, g, rfl, h⟩) h
  exact ⟨S2, g2, h2, fun κ2 => m_spec_par (P := fun x => x = κ2 S2 g2) (κ2 := κ2) (fun S3 g3 h3 => by cases h3; rfl) h1⟩
abbrev mRn : Type := Option (Nat × (Nat → Int32)) → Nat → mM → Nat → List Value → List Value → mG → Option (Option Value × mG)
/-- rows of runs that only grow, and what they come to -/
def m_up (r : Nat → mRn) : Prop := ∀ n sc d mm pc L S g z, r n sc d mm pc L S g = some z → ∀ k, r (n + k) sc d mm pc L S g = some z
def m_to (r : Nat → mRn) (r2 : mRn) : Prop := ∀ sc d mm pc L S g z, r2 sc d mm pc L S g = some z ↔ ∃ n, r n sc d mm pc L S g = some z
theorem m_call_fac {v : Bool} {d k : Nat} {S : List Value} {g : mG} {run : Nat → mM → List Value → mG → Option (Option Value × mG)} {κ : List Value → mG → Option (Option Value × mG)} {z : Option Value × mG} (h : m_call v d k S g run κ = some z) :
    (∃ S2 g2, κ S2 g2 = some z ∧ ∀ run2 κ2, m_call v d k S g run2 κ2 = κ2 S2 g2) ∨ (∃ (d2 : Nat) (m2 : mM) (as : List Value) (q : Option Value × mG) (S2 : Option Value → List Value), run d2 m2 as g = some q ∧ κ (S2 q.1) q.2 = some z ∧ ∀ run2 κ2, m_call v d k S g run2 κ2 = m_bnd (run2 d2 m2 as g) (fun r g2 => κ2 (S2 r) g2)) := by
  cases d with
  | zero => cases h
  | succ d =>
    unfold m_call at h ⊢
    dsimp only at h ⊢
    cases hk : Nat.ble 5000 k with
    | true =>
      rw [hk] at h
      obtain ⟨S2, g2, h1, h2⟩ := m_spec_fac h
      exact Or.inl ⟨S2, g2, h1, fun _ κ2 => h2 κ2⟩
    | false =>
      rw [hk] at h
      dsimp only at h ⊢
      cases hm : m_mt k with
      | none => rw [hm] at h; cases h
      | some m2 =>
        rw [hm] at h
        dsimp only at h ⊢
        cases hs : m_split m2.2.2.2.2.2.1 [] S with
        | none => rw [hs] at h; cases h
        | some ar =>
          obtain ⟨as, rest⟩ := ar
          rw [hs] at h
          dsimp only at h ⊢
          cases ho : m_okc v m2 as rest with
          | false => rw [ho] at h; cases h
          | true =>
            rw [ho] at h
            dsimp only at h ⊢
            cases hq : run d m2 as g with
            | none => rw [hq] at h; cases h
            | some q =>
              rw [hq] at h
              exact Or.inr ⟨d, m2, as, q, fun r => m_psh r rest, hq, h, fun _ _ => rfl⟩
noncomputable def m_gen (run : Nat → mM → List Value → mG → Option (Option Value × mG)) (κ : Nat → List Value → List Value → mG → Option (Option Value × mG)) (sc : Option (Nat × (Nat → Int32))) (d : Nat) (mm : mM) (pc : Nat) (L S : List Value) (g : mG) : Option (Option Value × mG) := match m_fetch mm.2.2.2.2.2.2.2 pc with
    | none => none
    | some o => match m_k o.2.1 with
      | 0 => m_xs sc o L S g κ
      | 1 => (match S, mm.2.2.2.2.1 with
        | [], none => some (none, g)
        | _, _ => none)
      | 2 => (match S with
        | [.int x] => (match mm.2.2.2.2.1 with
          | some .int => some (some (.int x), g)
          | some .boolean => if x &&& 1 = x then some (some (.int x), g) else none
          | _ => none)
        | _ => none)
      | 3 => (match S with
        | [.long x] => (match mm.2.2.2.2.1 with
          | some .long => some (some (.long x), g)
          | _ => none)
        | _ => none)
      | 4 => (match S with
        | [.ref x] => (match mm.2.2.2.2.1 with
          | some (.object _) => some (some (.ref x), g)
          | _ => none)
        | _ => none)
      | 5 => m_call true d o.2.2.2.1 S g run (fun S g => κ (pc + 3) L S g)
      | _ => m_call false d o.2.2.2.1 S g run (fun S g => κ (pc + 3) L S g)
noncomputable def m_body (rec : mRn) (sc : Option (Nat × (Nat → Int32))) (d : Nat) (mm : mM) (pc : Nat) (L S : List Value) (g : mG) : Option (Option Value × mG) := m_gen (fun d m2 as g => rec none d m2 0 (m_ent m2.2.2.2.1 as) [] g) (rec sc d mm) sc d mm pc L S g
theorem m_ex_body (n : Nat) (sc : Option (Nat × (Nat → Int32))) (d : Nat) (mm : mM) (pc : Nat) (L S : List Value) (g : mG) : m_ex (n + 1) sc d mm pc L S g = m_body (m_ex n) sc d mm pc L S g := rfl
/-- what the body gives needs its run at one or two places only: so far as another run gives the same there, its body gives the same -/
theorem m_body_fac {r1 : mRn} {sc : Option (Nat × (Nat → Int32))} {d : Nat} {mm : mM} {pc : Nat} {L S : List Value} {g : mG} {z : Option Value × mG} (h : m_body r1 sc d mm pc L S g = some z) :
    (∀ r2 : mRn, m_body r2 sc d mm pc L S g = some z) ∨ (∃ pc2 L2 S2 g2, r1 sc d mm pc2 L2 S2 g2 = some z ∧ ∀ r2 : mRn, r2 sc d mm pc2 L2 S2 g2 = some z → m_body r2 sc d mm pc L S g = some z) ∨
    (∃ d2 m2 L2 q pc2 S2, r1 none d2 m2 0 L2 [] g = some q ∧ r1 sc d mm pc2 L S2 q.2 = some z ∧ ∀ r2 : mRn, r2 none d2 m2 0 L2 [] g = some q → r2 sc d mm pc2 L S2 q.2 = some z → m_body r2 sc d mm pc L S g = some z) := by
  unfold m_body m_gen at h ⊢
  split at h
  · cases h
  · split at h
    · obtain ⟨pc2, L2, S2, g2, h1, h2⟩ := m_xs_fac h
      exact Or.inr (Or.inl ⟨pc2, L2, S2, g2, h1, fun r2 h3 => (h2 _).trans h3⟩)
    · exact Or.inl (fun _ => h)
    · exact Or.inl (fun _ => h)
    · exact Or.inl (fun _ => h)
    · exact Or.inl (fun _ => h)
    · rcases m_call_fac h with ⟨S2, g2, h1, h2⟩ | ⟨d2, m2, as, q, S2, h1, h2, h3⟩
      · exact Or.inr (Or.inl ⟨_, L, S2, g2, h1, fun r2 h3 => (h2 _ _).trans h3⟩)
      · refine Or.inr (Or.inr ⟨d2, m2, _, q, _, S2 q.1, h1, h2, fun r2 h4 h5 => ?_⟩)
        rw [h3]
        show m_bnd (r2 none d2 m2 0 (m_ent m2.2.2.2.1 as) [] g) _ = some z
        rw [h4]
        exact h5
    · rcases m_call_fac h with ⟨S2, g2, h1, h2⟩ | ⟨d2, m2, as, q, S2, h1, h2, h3⟩
      · exact Or.inr (Or.inl ⟨_, L, S2, g2, h1, fun r2 h3 => (h2 _ _).trans h3⟩)
      · refine Or.inr (Or.inr ⟨d2, m2, _, q, _, S2 q.1, h1, h2, fun r2 h4 h5 => ?_⟩)
        rw [h3]
        show m_bnd (r2 none d2 m2 0 (m_ent m2.2.2.2.1 as) [] g) _ = some z
        rw [h4]
        exact h5
theorem m_body_mono {r1 r2 : mRn} (ih : ∀ sc d mm pc L S g z, r1 sc d mm pc L S g = some z → r2 sc d mm pc L S g = some z) {sc : Option (Nat × (Nat → Int32))} {d : Nat} {mm : mM} {pc : Nat} {L S : List Value} {g : mG} {z : Option Value × mG} (h : m_body r1 sc d mm pc L S g = some z) : m_body r2 sc d mm pc L S g = some z := by
  rcases m_body_fac h with h1 | ⟨pc2, L2, S2, g2, h1, h2⟩ | ⟨d2, m2, L2, q, pc2, S2, h1, h2, h3⟩
  · exact h1 r2
  · exact h2 r2 (ih _ _ _ _ _ _ _ _ h1)
  · exact h3 r2 (ih _ _ _ _ _ _ _ _ h1) (ih _ _ _ _ _ _ _ _ h2)
theorem m_ex_succ : ∀ (n : Nat) (sc : Option (Nat × (Nat → Int32))) (d : Nat) (mm : mM) (pc : Nat) (L S : List Value) (g : mG) (z : Option Value × mG), m_ex n sc d mm pc L S g = some z → m_ex (n + 1) sc d mm pc L S g = some z := by
  intro n
  induction n with
  | zero => intro sc d mm pc L S g z h; cases h
  | succ n ih =>
    intro sc d mm pc L S g z h
    rw [m_ex_body] at h ⊢
    exact m_body_mono ih h
theorem m_ex_add {n : Nat} {sc : Option (Nat × (Nat → Int32))} {d : Nat} {mm : mM} {pc : Nat} {L S : List Value} {g : mG} {z : Option Value × mG} (h : m_ex n sc d mm pc L S g = some z) : ∀ k, m_ex (n + k) sc d mm pc L S g = some z := by
  intro k
  induction k with
  | zero => exact h
  | succ k ih => exact m_ex_succ _ _ _ _ _ _ _ _ _ ih
/-- what the small machine comes to from here -/
noncomputable def ev (sc : Option (Nat × (Nat → Int32))) (d : Nat) (mm : mM) (pc : Nat) (L S : List Value) (g : mG) : Option (Option Value × mG) := match Classical.propDecidable (∃ z, ∃ n, m_ex n sc d mm pc L S g = some z) with
  | .isTrue h => some (Classical.choose h)
  | .isFalse _ => none
theorem ev_of {n : Nat} {sc : Option (Nat × (Nat → Int32))} {d : Nat} {mm : mM} {pc : Nat} {L S : List Value} {g : mG} {z : Option Value × mG} (h : m_ex n sc d mm pc L S g = some z) : ev sc d mm pc L S g = some z := by
  unfold ev
  split
  · next h2 _ =>
    obtain ⟨n2, h3⟩ := Classical.choose_spec h2
    have h4 := m_ex_add h n2
    have h5 := m_ex_add h3 n
    rw [Nat.add_comm, h4] at h5
    rw [Option.some.inj h5]
  · next h2 _ => exact absurd ⟨z, n, h⟩ h2
theorem ev_inv {sc : Option (Nat × (Nat → Int32))} {d : Nat} {mm : mM} {pc : Nat} {L S : List Value} {g : mG} {z : Option Value × mG} (h : ev sc d mm pc L S g = some z) : ∃ n, m_ex n sc d mm pc L S g = some z := by
  unfold ev at h
  split at h
  · next h2 _ =>
    obtain ⟨n, h3⟩ := Classical.choose_spec h2
    cases h
    exact ⟨n, h3⟩
  · cases h
theorem ev_fix (sc : Option (Nat × (Nat → Int32))) (d : Nat) (mm : mM) (pc : Nat) (L S : List Value) (g : mG) : ev sc d mm pc L S g = m_body ev sc d mm pc L S g := by
  have h1 : ∀ z, ev sc d mm pc L S g = some z → m_body ev sc d mm pc L S g = some z := by
    intro z h
    obtain ⟨n, h⟩ := ev_inv h
    cases n with
    | zero => cases h
    | succ n =>
      rw [m_ex_body] at h
      exact m_body_mono (fun _ _ _ _ _ _ _ _ h => ev_of h) h
  have h2 : ∀ z, m_body ev sc d mm pc L S g = some z → ev sc d mm pc L S g = some z := by
    intro z h
    rcases m_body_fac h with h1 | ⟨pc2, L2, S2, g2, h1, h2⟩ | ⟨d2, m2, L2, q, pc2, S2, h1, h2, h3⟩
    · exact ev_of (n := 1) ((m_ex_body 0 sc d mm pc L S g).trans (h1 _))
    · obtain ⟨n, h1⟩ := ev_inv h1
      exact ev_of (n := n + 1) ((m_ex_body n sc d mm pc L S g).trans (h2 _ h1))
    · obtain ⟨n1, h1⟩ := ev_inv h1
      obtain ⟨n2, h2⟩ := ev_inv h2
      refine ev_of (n := n1 + n2 + 1) ((m_ex_body (n1 + n2) sc d mm pc L S g).trans (h3 _ (m_ex_add h1 n2) ?_))
      rw [Nat.add_comm]
      exact m_ex_add h2 n1
  cases h : m_body ev sc d mm pc L S g with
  | some z => exact h2 z h
  | none =>
    cases h3 : ev sc d mm pc L S g with
    | none => rfl
    | some z => rw [h1 z h3] at h; cases h
/-- a stretch of code: on to the next place of the list -/
noncomputable def m_seg (rec : mRn) (cuts : List Nat) (sc : Option (Nat × (Nat → Int32))) (d : Nat) (mm : mM) : Nat → Nat → List Value → List Value → mG → Option (Option Value × mG)
  | 0, pc, L, S, g => rec sc d mm pc L S g
  | k + 1, pc, L, S, g => m_gen (fun d m2 as g => rec none d m2 0 (m_ent m2.2.2.2.1 as) [] g) (fun pc2 L2 S2 g2 => match cuts.any (Nat.beq pc2) with
      | true => rec sc d mm pc2 L2 S2 g2
      | false => m_seg rec cuts sc d mm k pc2 L2 S2 g2) sc d mm pc L S g
theorem ev_seg (cuts : List Nat) (sc : Option (Nat × (Nat → Int32))) (d : Nat) (mm : mM) : ∀ (k pc : Nat) (L S : List Value) (g : mG), ev sc d mm pc L S g = m_seg ev cuts sc d mm k pc L S g := by
  intro k
  induction k with
  | zero => intro pc L S g; rfl
  | succ k ih =>
    intro pc L S g
    rw [ev_fix]
    show m_gen (fun d m2 as g => ev none d m2 0 (m_ent m2.2.2.2.1 as) [] g) (ev sc d mm) sc d mm pc L S g = m_gen (fun d m2 as g => ev none d m2 0 (m_ent m2.2.2.2.1 as) [] g) (fun pc2 L2 S2 g2 => match cuts.any (Nat.beq pc2) with
      | true => ev sc d mm pc2 L2 S2 g2
      | false => m_seg ev cuts sc d mm k pc2 L2 S2 g2) sc d mm pc L S g
    have e : (ev sc d mm) = (fun pc2 L2 S2 g2 => match cuts.any (Nat.beq pc2) with
      | true => ev sc d mm pc2 L2 S2 g2
      | false => m_seg ev cuts sc d mm k pc2 L2 S2 g2) := by
      funext pc2 L2 S2 g2
      split
      · rfl
      · exact ih pc2 L2 S2 g2
    rw [← e]
