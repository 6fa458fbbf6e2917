/-! THE SMALL MACHINE: the same bytecode over a pure state; its cells are numbered, references are the numbers -/
def m_fetch (ops : List mO) (pc : Nat) : Option mO := ops.find? (fun o => Nat.beq o.1 pc)
def m_tr (ad : Nat → Nat) (v : Value) : Value := match v with
  | .ref a => .ref (ad a)
  | x => x
section MP
variable {β : Type}
def m_pi (S : List Value) (f : Int32 → List Value → Option β) : Option β := match S with
  | .int x :: t => f x t
  | _ => none
def m_pl (S : List Value) (f : Int64 → List Value → Option β) : Option β := match S with
  | .long x :: t => f x t
  | _ => none
def m_pa (S : List Value) (f : Nat → List Value → Option β) : Option β := match S with
  | .ref x :: t => f x t
  | _ => none
def m_qi (L : List Value) (k : Nat) (f : Int32 → Option β) : Option β := match L[k]? with
  | some (.int x) => f x
  | _ => none
def m_ql (L : List Value) (k : Nat) (f : Int64 → Option β) : Option β := match L[k]? with
  | some (.long x) => f x
  | _ => none
def m_qa (L : List Value) (k : Nat) (f : Nat → Option β) : Option β := match L[k]? with
  | some (.ref x) => f x
  | _ => none
/-- a place that must be there -/
noncomputable def m_in (i : Int32) (n : Nat) (x : Option β) : Option β := @ite _ (i < 0 ∨ n ≤ i.toNatClampNeg) (Classical.propDecidable _) none x
/-- a branch that nobody works out by himself -/
noncomputable def m_if (c : Prop) (x y : Option β) : Option β := @ite _ c (Classical.propDecidable c) x y
theorem m_if_pos {c : Prop} {x y : Option β} (h : c) : m_if c x y = x := if_pos h
theorem m_if_neg {c : Prop} {x y : Option β} (h : ¬ c) : m_if c x y = y := if_neg h
noncomputable def m_sw (x : Int32) (d : Nat) (f : Nat → Option β) : List (Int32 × Nat) → Option β
  | [] => f d
  | q :: r => m_if (x = q.1) (f q.2) (m_sw x d f r)
theorem m_pi_inv {S : List Value} {f : Int32 → List Value → Option β} {z : β} (h : m_pi S f = some z) : ∃ x t, S = .int x :: t ∧ f x t = some z := by
  unfold m_pi at h
  split at h
  · exact ⟨_, _, rfl, h⟩
  · cases h
theorem m_pl_inv {S : List Value} {f : Int64 → List Value → Option β} {z : β} (h : m_pl S f = some z) : ∃ x t, S = .long x :: t ∧ f x t = some z := by
  unfold m_pl at h
  split at h
  · exact ⟨_, _, rfl, h⟩
  · cases h
theorem m_pa_inv {S : List Value} {f : Nat → List Value → Option β} {z : β} (h : m_pa S f = some z) : ∃ x t, S = .ref x :: t ∧ f x t = some z := by
  unfold m_pa at h
  split at h
  · exact ⟨_, _, rfl, h⟩
  · cases h
theorem m_qi_inv {L : List Value} {k : Nat} {f : Int32 → Option β} {z : β} (h : m_qi L k f = some z) : ∃ x, L[k]? = some (.int x) ∧ f x = some z := by
  unfold m_qi at h
  split at h
  · next x e => exact ⟨x, e, h⟩
  · cases h
theorem m_ql_inv {L : List Value} {k : Nat} {f : Int64 → Option β} {z : β} (h : m_ql L k f = some z) : ∃ x, L[k]? = some (.long x) ∧ f x = some z := by
  unfold m_ql at h
  split at h
  · next x e => exact ⟨x, e, h⟩
  · cases h
theorem m_qa_inv {L : List Value} {k : Nat} {f : Nat → Option β} {z : β} (h : m_qa L k f = some z) : ∃ x, L[k]? = some (.ref x) ∧ f x = some z := by
  unfold m_qa at h
  split at h
  · next x e => exact ⟨x, e, h⟩
  · cases h
theorem m_in_inv {i : Int32} {n : Nat} {x : Option β} {z : β} (h : m_in i n x = some z) : vp_in i n ∧ x = some z := by
  unfold m_in at h
  split at h
  · cases h
  · next e => exact ⟨e, h⟩
end MP
/-- locals: a value of one word, of two words -/
def m_clob (L : List Value) (k : Nat) : List Value := match k with
  | 0 => L
  | j + 1 => match L[j]? with
    | some w => (match w.category with
      | 2 => L.set j .null
      | _ => L)
    | none => L
def m_st1 (L : List Value) (k : Nat) (v : Value) : List Value := (m_clob L k).set k v
def m_st2 (L : List Value) (k : Nat) (v : Value) : List Value := ((m_clob L k).set k v).set (k + 1) .null
def m_s1 (g : mG) (a k : Nat) (x : Int32) : mG := (fun c => if c = a then upd (g.1 a) k x else g.1 c, g.2)
def m_s2 (g : mG) (a k : Nat) (x : Int64) : mG := (g.1, fun c => if c = a then vp_updL (g.2 a) k x else g.2 c)
section MX
variable {β : Type}
/-- the field code of field k % 100 of class k / 100 at cell a -/
def m_fld (a k : Nat) (f : Nat → Option β) : Option β := match m_sh[a]? with
  | some (0, c, fs) => (match Nat.beq c (k / 100) with
    | true => (match fs[k % 100]? with
      | some q => f q
      | none => none)
    | false => none)
  | _ => none
/-- an array cell of a sort: its length -/
def m_arr (t a : Nat) (f : Nat → List Nat → Option β) : Option β := match m_sh[a]? with
  | some (u + 1, n, rs) => (match Nat.beq u t with
    | true => f n rs
    | false => none)
  | _ => none
def m_stat (a : Nat) (f : FieldType → List Int32 → Option β) : Option β := match Nat.ble 1000 a with
  | true => (match m_sa[a - 1000]? with
    | some (_, _, _, ty, vs) => f ty vs
    | none => none)
  | false => none
/-- one of a row of cells -/
def m_sel (rs : List Nat) (k : Nat) (f : Nat → Option β) : Option β := match rs[k]? with
  | some j => f j
  | none => none
theorem m_sel_inv {rs : List Nat} {k : Nat} {f : Nat → Option β} {z : β} (h : m_sel rs k f = some z) : ∃ j, rs[k]? = some j ∧ f j = some z := by
  unfold m_sel at h
  split at h
  · next j e => exact ⟨j, e, h⟩
  · cases h
/-- the law's script -/
noncomputable def m_scl (sc : Option (Nat × (Nat → Int32))) (i : Int32) (f : Int32 → Option β) : Option β := match sc with
  | some q => m_in i q.1 (f (q.2 i.toNatClampNeg))
  | none => none
def m_scn (sc : Option (Nat × (Nat → Int32))) (f : Int32 → Option β) : Option β := match sc with
  | some q => f (Int32.ofNat q.1)
  | none => none
/-- one instruction that is no call and no return -/
noncomputable def m_xs (sc : Option (Nat × (Nat → Int32))) (o : mO) (L S : List Value) (g : mG) (κ : Nat → List Value → List Value → mG → Option β) : Option β := match o with
  | (pc, i, _, k, v, w, ts) => match i with
    | .iconst _ => κ (pc + 1) L (.int v :: S) g
    | .bipush _ => κ (pc + 2) L (.int v :: S) g
    | .sipush _ => κ (pc + 3) L (.int v :: S) g
    | .lconst _ => κ (pc + 1) L (.long w :: S) g
    | .ldc _ => κ (pc + 2) L (.int v :: S) g
    | .ldc_w _ => κ (pc + 3) L (.int v :: S) g
    | .ldc2_w _ => κ (pc + 3) L (.long w :: S) g
    | .iload_n _ => m_qi L k fun x => κ (pc + 1) L (.int x :: S) g
    | .iload _ => m_qi L k fun x => κ (pc + 2) L (.int x :: S) g
    | .lload_n _ => m_ql L k fun x => κ (pc + 1) L (.long x :: S) g
    | .lload _ => m_ql L k fun x => κ (pc + 2) L (.long x :: S) g
    | .aload_n _ => m_qa L k fun x => κ (pc + 1) L (.ref x :: S) g
    | .aload _ => m_qa L k fun x => κ (pc + 2) L (.ref x :: S) g
    | .istore_n _ => m_pi S fun x S => κ (pc + 1) (m_st1 L k (.int x)) S g
    | .istore _ => m_pi S fun x S => κ (pc + 2) (m_st1 L k (.int x)) S g
    | .lstore_n _ => m_pl S fun x S => κ (pc + 1) (m_st2 L k (.long x)) S g
    | .lstore _ => m_pl S fun x S => κ (pc + 2) (m_st2 L k (.long x)) S g
    | .astore_n _ => m_pa S fun x S => κ (pc + 1) (m_st1 L k (.ref x)) S g
    | .astore _ => m_pa S fun x S => κ (pc + 2) (m_st1 L k (.ref x)) S g
    | .iinc _ _ => m_qi L k fun x => κ (pc + 3) (m_st1 L k (.int (x + v))) S g
    | .iadd => m_pi S fun y S => m_pi S fun x S => κ (pc + 1) L (.int (x + y) :: S) g
    | .isub => m_pi S fun y S => m_pi S fun x S => κ (pc + 1) L (.int (x - y) :: S) g
    | .imul => m_pi S fun y S => m_pi S fun x S => κ (pc + 1) L (.int (x * y) :: S) g
    | .iand => m_pi S fun y S => m_pi S fun x S => κ (pc + 1) L (.int (x &&& y) :: S) g
    | .ior => m_pi S fun y S => m_pi S fun x S => κ (pc + 1) L (.int (x ||| y) :: S) g
    | .ixor => m_pi S fun y S => m_pi S fun x S => κ (pc + 1) L (.int (x ^^^ y) :: S) g
    | .ishl => m_pi S fun y S => m_pi S fun x S => κ (pc + 1) L (.int (x <<< (y &&& 31)) :: S) g
    | .ishr => m_pi S fun y S => m_pi S fun x S => κ (pc + 1) L (.int (x >>> (y &&& 31)) :: S) g
    | .iushr => m_pi S fun y S => m_pi S fun x S => κ (pc + 1) L (.int (x.toUInt32 >>> (y.toUInt32 &&& Int32.toUInt32 31)).toInt32 :: S) g
    | .idiv => m_pi S fun y S => m_pi S fun x S => if y = 0 then none else κ (pc + 1) L (.int (x / y) :: S) g
    | .irem => m_pi S fun y S => m_pi S fun x S => if y = 0 then none else κ (pc + 1) L (.int (x - x / y * y) :: S) g
    | .ineg => m_pi S fun x S => κ (pc + 1) L (.int (-x) :: S) g
    | .i2l => m_pi S fun x S => κ (pc + 1) L (.long x.toInt64 :: S) g
    | .i2b => m_pi S fun x S => κ (pc + 1) L (.int x.toInt8.toInt32 :: S) g
    | .i2s => m_pi S fun x S => κ (pc + 1) L (.int x.toInt16.toInt32 :: S) g
    | .l2i => m_pl S fun x S => κ (pc + 1) L (.int x.toInt32 :: S) g
    | .ladd => m_pl S fun y S => m_pl S fun x S => κ (pc + 1) L (.long (x + y) :: S) g
    | .lmul => m_pl S fun y S => m_pl S fun x S => κ (pc + 1) L (.long (x * y) :: S) g
    | .land => m_pl S fun y S => m_pl S fun x S => κ (pc + 1) L (.long (x &&& y) :: S) g
    | .lor => m_pl S fun y S => m_pl S fun x S => κ (pc + 1) L (.long (x ||| y) :: S) g
    | .ldiv => m_pl S fun y S => m_pl S fun x S => if y = 0 then none else κ (pc + 1) L (.long (x / y) :: S) g
    | .lrem => m_pl S fun y S => m_pl S fun x S => if y = 0 then none else κ (pc + 1) L (.long (x - x / y * y) :: S) g
    | .lshl => m_pi S fun y S => m_pl S fun x S => κ (pc + 1) L (.long (x <<< (y.toInt64 &&& 63)) :: S) g
    | .lcmp => m_pl S fun y S => m_pl S fun x S => κ (pc + 1) L (.int (lg_cmp x y) :: S) g
    | .dup => (match S with
      | x :: t => (match x.category with
        | 1 => κ (pc + 1) L (x :: x :: t) g
        | _ => none)
      | _ => none)
    | .pop => (match S with
      | x :: t => (match x.category with
        | 1 => κ (pc + 1) L t g
        | _ => none)
      | _ => none)
    | .dup2 => (match S with
      | x :: y :: t => (match x.category, y.category with
        | 1, 1 => κ (pc + 1) L (x :: y :: x :: y :: t) g
        | _, _ => none)
      | _ => none)
    | .ifCond .eq _ => m_pi S fun x S => m_if (x = 0) (κ k L S g) (κ (pc + 3) L S g)
    | .ifCond .ne _ => m_pi S fun x S => m_if (x = 0) (κ (pc + 3) L S g) (κ k L S g)
    | .ifCond .lt _ => m_pi S fun x S => m_if (x < 0) (κ k L S g) (κ (pc + 3) L S g)
    | .ifCond .ge _ => m_pi S fun x S => m_if (x < 0) (κ (pc + 3) L S g) (κ k L S g)
    | .ifCond .gt _ => m_pi S fun x S => m_if (0 < x) (κ k L S g) (κ (pc + 3) L S g)
    | .ifCond .le _ => m_pi S fun x S => m_if (0 < x) (κ (pc + 3) L S g) (κ k L S g)
    | .if_icmp .eq _ => m_pi S fun y S => m_pi S fun x S => m_if (x = y) (κ k L S g) (κ (pc + 3) L S g)
    | .if_icmp .ne _ => m_pi S fun y S => m_pi S fun x S => m_if (x = y) (κ (pc + 3) L S g) (κ k L S g)
    | .if_icmp .lt _ => m_pi S fun y S => m_pi S fun x S => m_if (x < y) (κ k L S g) (κ (pc + 3) L S g)
    | .if_icmp .ge _ => m_pi S fun y S => m_pi S fun x S => m_if (x < y) (κ (pc + 3) L S g) (κ k L S g)
    | .if_icmp .gt _ => m_pi S fun y S => m_pi S fun x S => m_if (y < x) (κ k L S g) (κ (pc + 3) L S g)
    | .if_icmp .le _ => m_pi S fun y S => m_pi S fun x S => m_if (y < x) (κ (pc + 3) L S g) (κ k L S g)
    | .goto _ => κ k L S g
    | .tableswitch _ _ _ _ => m_pi S fun x S => m_sw x k (fun t => κ t L S g) ts
    | .lookupswitch _ _ => m_pi S fun x S => m_sw x k (fun t => κ t L S g) ts
    | .getfield _ => m_pa S fun a S => m_fld a k fun q => (match q with
      | 0 => κ (pc + 3) L (.int (g.1 a (k % 100)) :: S) g
      | 1 => κ (pc + 3) L (.long (g.2 a (k % 100)) :: S) g
      | 2 => κ (pc + 3) L (.int (g.1 a (k % 100)) :: S) g
      | j + 3 => κ (pc + 3) L (.ref j :: S) g)
    | .putfield _ => (match S with
      | .int x :: t => m_pa t fun a t => m_fld a k fun q => (match q with
        | 0 => κ (pc + 3) L t (m_s1 g a (k % 100) x)
        | 2 => if x = 1 then κ (pc + 3) L t (m_s1 g a (k % 100) x) else none
        | _ => none)
      | .long x :: t => m_pa t fun a t => m_fld a k fun q => (match q with
        | 1 => κ (pc + 3) L t (m_s2 g a (k % 100) x)
        | _ => none)
      | _ => none)
    | .getstatic _ => κ (pc + 3) L (.ref (1000 + k) :: S) g
    | .iaload => m_pi S fun i S => m_pa S fun a S => (match m_sh[a]? with
      | some _ => m_arr 0 a fun n _ => m_in i n (κ (pc + 1) L (.int (g.1 a i.toNatClampNeg) :: S) g)
      | none => (match Nat.beq a 999 with
        | true => m_scl sc i fun x => κ (pc + 1) L (.int x :: S) g
        | false => m_stat a fun ty vs => (match ty with
          | .int => m_in i vs.length (κ (pc + 1) L (.int (vs.getD i.toNatClampNeg 0) :: S) g)
          | _ => none)))
    | .caload => m_pi S fun i S => m_pa S fun a S => m_stat a fun ty vs => (match ty with
      | .char => m_in i vs.length (κ (pc + 1) L (.int (vs.getD i.toNatClampNeg 0) :: S) g)
      | _ => none)
    | .baload => m_pi S fun i S => m_pa S fun a S => m_arr 1 a fun n _ => m_in i n (κ (pc + 1) L (.int (g.1 a i.toNatClampNeg) :: S) g)
    | .saload => m_pi S fun i S => m_pa S fun a S => m_arr 2 a fun n _ => m_in i n (κ (pc + 1) L (.int (g.1 a i.toNatClampNeg) :: S) g)
    | .laload => m_pi S fun i S => m_pa S fun a S => m_arr 3 a fun n _ => m_in i n (κ (pc + 1) L (.long (g.2 a i.toNatClampNeg) :: S) g)
    | .aaload => m_pi S fun i S => m_pa S fun a S => m_arr 4 a fun n rs => m_in i n (m_sel rs i.toNatClampNeg fun j => κ (pc + 1) L (.ref j :: S) g)
    | .iastore => m_pi S fun x S => m_pi S fun i S => m_pa S fun a S => m_arr 0 a fun n _ => m_in i n (κ (pc + 1) L S (m_s1 g a i.toNatClampNeg x))
    | .bastore => m_pi S fun x S => m_pi S fun i S => m_pa S fun a S => m_arr 1 a fun n _ => m_in i n (κ (pc + 1) L S (m_s1 g a i.toNatClampNeg (vp_nar .byte x)))
    | .sastore => m_pi S fun x S => m_pi S fun i S => m_pa S fun a S => m_arr 2 a fun n _ => m_in i n (κ (pc + 1) L S (m_s1 g a i.toNatClampNeg (vp_nar .short x)))
    | .lastore => m_pl S fun x S => m_pi S fun i S => m_pa S fun a S => m_arr 3 a fun n _ => m_in i n (κ (pc + 1) L S (m_s2 g a i.toNatClampNeg x))
    | .arraylength => m_pa S fun a S => (match m_sh[a]? with
      | some (_ + 1, n, _) => κ (pc + 1) L (.int (Int32.ofNat n) :: S) g
      | some (0, _, _) => none
      | none => (match Nat.beq a 999 with
        | true => m_scn sc fun x => κ (pc + 1) L (.int x :: S) g
        | false => none))
    | _ => none
end MX
def m_split : Nat → List Value → List Value → Option (List Value × List Value)
  | 0, acc, S => some (acc, S)
  | n + 1, acc, x :: S => m_split n (x :: acc) S
  | _ + 1, _, [] => none
def m_sl (vs : List Value) : List Value := match vs with
  | [] => []
  | v :: r => (match v.category with
    | 2 => v :: .null :: m_sl r
    | _ => v :: m_sl r)
def m_ent (n : Nat) (vs : List Value) : List Value := m_sl vs ++ List.replicate (n - (m_sl vs).length) .null
def m_cat (S : List Value) : Nat := (S.map fun v => v.category).sum
/-- the receiver is of the callee's class, the locals fit, the stack below is small -/
def m_okc (v : Bool) (m2 : mM) (as rest : List Value) : Bool := (Nat.ble (m_sl as).length m2.2.2.2.1 && Nat.ble (m_cat rest) 8) && (match v with
  | false => true
  | true => (match as with
    | .ref b :: _ => (match m_sh[b]? with
      | some (0, c, _) => Nat.beq c m2.1
      | _ => false)
    | _ => false))
def m_cp (g : mG) (a0 a sp dp n : Nat) : mG := (g.1, fun c => if c = a then va_cpy (g.2 a0) (g.2 a) sp dp n else g.2 c)
/-- longs moved from row to row -/
def m_copy {β : Type} (S : List Value) (g : mG) (κ : List Value → mG → Option β) : Option β :=
  m_pi S fun n S => m_pi S fun dp S => m_pa S fun a S => m_pi S fun sp S => m_pa S fun a0 S => m_arr 3 a0 fun n0 _ => m_arr 3 a fun n1 _ =>
    if sp < 0 ∨ dp < 0 ∨ n < 0 ∨ n0 < sp.toNatClampNeg + n.toNatClampNeg ∨ n1 < dp.toNatClampNeg + n.toNatClampNeg ∨ S ≠ [] then none
    else κ S (m_cp g a0 a sp.toNatClampNeg dp.toNatClampNeg n.toNatClampNeg)
/-- the JDK's own: arraycopy, max, min, abs -/
def m_spec {β : Type} (k : Nat) (S : List Value) (g : mG) (κ : List Value → mG → Option β) : Option β := match k with
  | 5000 => m_copy S g κ
  | 5001 => m_pi S fun y S => m_pi S fun x S => (match Nat.ble (m_cat S) 8 with
    | true => κ (.int (if x < y then y else x) :: S) g
    | false => none)
  | 5002 => m_pi S fun y S => m_pi S fun x S => (match Nat.ble (m_cat S) 8 with
    | true => κ (.int (if y < x then y else x) :: S) g
    | false => none)
  | _ => m_pi S fun x S => (match Nat.ble (m_cat S) 8 with
    | true => κ (.int (if 0 ≤ x then x else 0 - x) :: S) g
    | false => none)
/-- what a call gives, put on the stack -/
def m_psh (r : Option Value) (S : List Value) : List Value := match r with
  | none => S
  | some v => v :: S
def m_bnd (x : Option (Option Value × mG)) (f : Option Value → mG → Option (Option Value × mG)) : Option (Option Value × mG) := match x with
  | none => none
  | some q => f q.1 q.2
def m_call (v : Bool) (d k : Nat) (S : List Value) (g : mG) (run : Nat → mM → List Value → mG → Option (Option Value × mG)) (κ : List Value → mG → Option (Option Value × mG)) : Option (Option Value × mG) := match d with
  | 0 => none
  | d + 1 => match Nat.ble 5000 k with
    | true => m_spec k S g κ
    | false => match m_mt k with
      | none => none
      | some m2 => match m_split m2.2.2.2.2.2.1 [] S with
        | none => none
        | some (as, rest) => match m_okc v m2 as rest with
          | false => none
          | true => m_bnd (run d m2 as g) fun r g2 => κ (m_psh r rest) g2
def m_k (i : Instr) : Nat := match i with
  | .return_ => 1
  | .ireturn => 2
  | .lreturn => 3
  | .areturn => 4
  | .invokevirtual _ => 5
  | .invokestatic _ => 6
  | _ => 0
/-- n bounds the steps, d the calls that stand open -/
noncomputable def m_ex : Nat → Option (Nat × (Nat → Int32)) → Nat → mM → Nat → List Value → List Value → mG → Option (Option Value × mG)
  | 0, _, _, _, _, _, _, _ => none
  | n + 1, sc, d, mm, pc, L, S, g => match m_fetch mm.2.2.2.2.2.2.2 pc with
    | none => none
    | some o => match m_k o.2.1 with
      | 0 => m_xs sc o L S g (fun pc L S g => m_ex n sc d mm pc L S g)
      | 1 => (match S, mm.2.2.2.2.1 with
        | [], none => some (none, g)
        | _, _ => none)
      | 2 => (match S with
        | [.int x] => (match mm.2.2.2.2.1 with
          | some .int => some (some (.int x), g)
          | some .boolean => if x &&& 1 = x then some (some (.int x), g) else none
          | _ => none)
        | _ => none)
      | 3 => (match S with
        | [.long x] => (match mm.2.2.2.2.1 with
          | some .long => some (some (.long x), g)
          | _ => none)
        | _ => none)
      | 4 => (match S with
        | [.ref x] => (match mm.2.2.2.2.1 with
          | some (.object _) => some (some (.ref x), g)
          | _ => none)
        | _ => none)
      | 5 => m_call true d o.2.2.2.1 S g (fun d m2 as g => m_ex n none d m2 0 (m_ent m2.2.2.2.1 as) [] g) (fun S g => m_ex n sc d mm (pc + 3) L S g)
      | _ => m_call false d o.2.2.2.1 S g (fun d m2 as g => m_ex n none d m2 0 (m_ent m2.2.2.2.1 as) [] g) (fun S g => m_ex n sc d mm (pc + 3) L S g)
