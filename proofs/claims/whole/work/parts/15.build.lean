/-! THE MACHINE THAT MAKES CELLS: the constructors, and the law up to its loop. All is concrete; cell i lies at b0 + i. -/
abbrev bE : Type := Nat × Nat × List Value
def b_i (vs : List Value) (k : Nat) : Int32 := match vs[k]? with
  | some (.int x) => x
  | _ => 0
def b_l (vs : List Value) (k : Nat) : Int64 := match vs[k]? with
  | some (.long x) => x
  | _ => 0
def b_r (ad : Nat → Nat) (vs : List Value) (k : Nat) : Option Nat := match vs[k]? with
  | some (.ref j) => some (ad j)
  | _ => none
def b_e (ad : Nat → Nat) (cA : Nat → ClassId) (q : bE) : va_E := match q with
  | (0, c, fs) => .inr (c, fs.map (m_tr ad))
  | (4, n, vs) => .inl (cA 3, n, .inr (.inl (b_l vs)))
  | (5, n, vs) => .inl (cA 4, n, .inr (.inr (.inr (.inr (b_r ad vs)))))
  | (t + 1, n, vs) => .inl (cA t, n, .inl (b_i vs))
def b_w (ad : Nat → Nat) (cA : Nat → ClassId) (hp : List bE) : va_W := hp.mapIdx (fun a q => (ad a, b_e ad cA q))
def b_set (d : Value) (vs : List Value) (i : Nat) (x : Value) : List Value := (vs ++ List.replicate (i + 1 - vs.length) d).set i x
def b_sz (q : bE) : Nat := match q with
  | (0, _, fs) => fs.length
  | (_, n, _) => n
def b_sl (hp : List bE) : Nat := (hp.map b_sz).sum
def b_fit (ty : FieldType) (v : Value) : Bool := match ty, v with
  | .int, .int _ => true
  | .boolean, .int x => decide (x = 0 ∨ x = 1)
  | .object _, .ref _ => true
  | .array _, .ref _ => true
  | _, _ => false
section BX
variable {β : Type}
def b_xs (o : mO) (L S : List Value) (hp : List bE) (κ : Nat → List Value → List Value → List bE → Option β) : Option β := match o with
  | (pc, i, _, k, v, _, _) => match i with
    | .iconst _ => κ (pc + 1) L (.int v :: S) hp
    | .bipush _ => κ (pc + 2) L (.int v :: S) hp
    | .sipush _ => κ (pc + 3) L (.int v :: S) hp
    | .aload_n _ => m_qa L k fun x => κ (pc + 1) L (.ref x :: S) hp
    | .iload_n _ => m_qi L k fun x => κ (pc + 1) L (.int x :: S) hp
    | .istore_n _ => m_pi S fun x S => κ (pc + 1) (m_st1 L k (.int x)) S hp
    | .astore_n _ => m_pa S fun x S => κ (pc + 1) (m_st1 L k (.ref x)) S hp
    | .iinc _ _ => m_qi L k fun x => κ (pc + 3) (m_st1 L k (.int (x + v))) S hp
    | .dup => (match S with
      | x :: t => (match x.category with
        | 1 => κ (pc + 1) L (x :: x :: t) hp
        | _ => none)
      | _ => none)
    | .if_icmp .ge _ => m_pi S fun y S => m_pi S fun x S => if x < y then κ (pc + 3) L S hp else κ k L S hp
    | .goto _ => κ k L S hp
    | .new _ => κ (pc + 3) L (.ref hp.length :: S) (hp ++ [(0, k, b_def k)])
    | .newarray _ => m_pi S fun n S => if n < 0 ∨ 1000 < n.toNatClampNeg then none else κ (pc + 2) L (.ref hp.length :: S) (hp ++ [(k + 1, n.toNatClampNeg, [])])
    | .anewarray _ => m_pi S fun n S => if n < 0 ∨ 1000 < n.toNatClampNeg then none else κ (pc + 3) L (.ref hp.length :: S) (hp ++ [(5, n.toNatClampNeg, [])])
    | .putfield _ => (match S with
      | x :: t => m_pa t fun a t => (match hp[a]? with
        | some (0, c, fs) => if c = k / 100 ∧ k % 100 < fs.length ∧ b_fit (m_tyOf (k / 100) (k % 100)) x = true then κ (pc + 3) L t (hp.set a (0, c, fs.set (k % 100) x)) else none
        | _ => none)
      | _ => none)
    | .getfield _ => m_pa S fun a S => (match hp[a]? with
      | some (0, c, fs) => if c = k / 100 then (match fs[k % 100]? with
        | some x => κ (pc + 3) L (x :: S) hp
        | none => none) else none
      | _ => none)
    | .iastore => m_pi S fun x S => m_pi S fun i S => m_pa S fun a S => (match hp[a]? with
      | some (1, n, vs) => if i < 0 ∨ n ≤ i.toNatClampNeg then none else κ (pc + 1) L S (hp.set a (1, n, b_set (.int 0) vs i.toNatClampNeg (.int x)))
      | _ => none)
    | .aastore => m_pa S fun x S => m_pi S fun i S => m_pa S fun a S => (match hp[a]?, hp[x]? with
      | some (5, n, vs), some (0, 7, _) => if i < 0 ∨ n ≤ i.toNatClampNeg then none else κ (pc + 1) L S (hp.set a (5, n, b_set .null vs i.toNatClampNeg (.ref x)))
      | _, _ => none)
    | _ => none
end BX
def b_k (i : Instr) : Nat := match i with
  | .return_ => 1
  | .invokespecial _ => 2
  | _ => 0
def b_okc (m2 : mM) (as rest : List Value) : Bool := Nat.ble (m_sl as).length m2.2.2.2.1 && (Nat.ble (m_cat rest) 8 && (match as with
  | .ref _ :: _ => true
  | _ => false))
def b_call {β : Type} (d k : Nat) (S : List Value) (hp : List bE) (run : Nat → mM → List Value → List bE → Option (List bE)) (κ : List Value → List bE → Option β) : Option β := match d with
  | 0 => none
  | d + 1 => match Nat.beq k 6000 with
    | true => m_pa S fun _ S => (match Nat.ble (m_cat S) 8 with
      | true => κ S hp
      | false => none)
    | false => match b_mt[k]? with
      | none => none
      | some m2 => match m_split m2.2.2.2.2.2.1 [] S with
        | none => none
        | some (as, rest) => match b_okc m2 as rest with
          | false => none
          | true => match run d m2 as hp with
            | none => none
            | some hp2 => κ rest hp2
def b_at (stp : Option Nat) (pc : Nat) : Bool := match stp with
  | some q => Nat.beq pc q
  | none => false
def b_ex : Nat → Nat → mM → Option Nat → Nat → List Value → List Value → List bE → Option (Nat × List Value × List Value × List bE)
  | 0, _, _, _, _, _, _, _ => none
  | n + 1, d, mm, stp, pc, L, S, hp => match b_at stp pc with
    | true => some (pc, L, S, hp)
    | false => match m_fetch mm.2.2.2.2.2.2.2 pc with
      | none => none
      | some o => match b_k o.2.1 with
        | 0 => b_xs o L S hp (fun pc L S hp => b_ex n d mm stp pc L S hp)
        | 1 => (match S with
          | [] => some (pc, L, [], hp)
          | _ => none)
        | _ => b_call d o.2.2.2.1 S hp (fun d m2 as hp => (b_ex n d m2 none 0 (m_ent m2.2.2.2.1 as) [] hp).map (fun q => q.2.2.2)) (fun S hp => b_ex n d mm stp (pc + 3) L S hp)
/-! the tables' check -/
def b_pl (ts : List (Int32 × Nat)) : Nat := match ts with
  | q :: _ => q.2
  | [] => 999999
def b_nst (ts : List (Int32 × Nat)) : Bool := match ts with
  | q :: _ => decide (q.1 = 1)
  | [] => false
def b_aty (t : Nat) : ArrayType := match t with
  | 0 => .int
  | 1 => .byte
  | 2 => .short
  | _ => .long
def b_ochk (oc : Nat) (cc : ByteArray) (maxL : Nat) (o : mO) : Bool := match o with
  | (pc, i, len, k, v, _, ts) => decide (decode cc pc = .ok (i, len)) && (match i with
    | .iconst n => Nat.beq len 1 && decide (Int32.ofInt n = v)
    | .bipush n => Nat.beq len 2 && decide ((Int8.ofInt n).toInt32 = v)
    | .sipush n => Nat.beq len 3 && decide ((Int16.ofInt n).toInt32 = v)
    | .iload_n n => Nat.beq len 1 && decide ((n : Nat) = k)
    | .aload_n n => Nat.beq len 1 && decide ((n : Nat) = k)
    | .istore_n n => Nat.beq len 1 && (decide ((n : Nat) = k) && decide (k < maxL))
    | .astore_n n => Nat.beq len 1 && (decide ((n : Nat) = k) && decide (k < maxL))
    | .iinc n q => Nat.beq len 3 && (decide (n = k) && (decide (Int32.ofInt q = v) && decide (k < maxL)))
    | .if_icmp _ off => Nat.beq len 3 && decide ((pc : Int) + off = (k : Int))
    | .goto off => Nat.beq len 3 && decide ((pc : Int) + off = (k : Int))
    | .new idx => Nat.beq len 3 && (match vwCl[k]?, b_cls[k]? with
      | some (C, _, N), some (p1, p2) => decide (m_wd (b_pl ts) = some (.classLink (m_own oc) idx C)) && (decide (m_wd p1 = some (.instantiable C N)) && decide (m_wd p2 = some (.initialized C)))
      | _, _ => false)
    | .newarray t => Nat.beq len 2 && (decide (t = b_aty k) && (decide (k < 4) && (match b_arr[k]? with
      | some p1 => decide (m_wd p1 = some (.arrayClass (newarray.typeOf t)))
      | none => false)))
    | .anewarray idx => Nat.beq len 3 && decide (m_wd (b_pl ts) = some (.classLink (m_own oc) idx "NailedByWord$Shelf"))
    | .putfield idx => Nat.beq len 3 && (match vwCl[k / 100]? with
      | some (_, T, N) => decide (k % 100 < N) && (decide ((T (k % 100)).1 = m_own oc) && decide (m_wd (b_pl ts) = some (.fieldLink (m_own oc) idx (T (k % 100)).1 (T (k % 100)).2.1 (T (k % 100)).2.2.1)))
      | none => false)
    | .getfield idx => Nat.beq len 3 && (match vwCl[k / 100]? with
      | some (_, T, N) => decide (k % 100 < N) && decide (m_wd (b_pl ts) = some (.fieldLink (m_own oc) idx (T (k % 100)).1 (T (k % 100)).2.1 (T (k % 100)).2.2.1))
      | none => false)
    | .invokespecial idx => Nat.beq len 3 && (match Nat.beq k 6000 with
      | true => decide (m_wd (b_pl ts) = some (.methodLink (m_own oc) idx objectInit))
      | false => (match b_mt[k]? with
        | some m2 => (match b_nst ts with
          | false => decide (m_wd (b_pl ts) = some (.methodLink (m_own oc) idx m2.2.1))
          | true => decide (m_wd (b_pl ts) = some (.methodLinkNest (m_own oc) idx m2.2.1 m_host)))
        | none => false))
    | _ => Nat.beq len 1)
def b_mchk (mm : mM) : Bool := match mm with
  | (oc, y, cc, maxL, ret, na, (p1, p2, _, p4, _), ops) =>
    decide (m_wd p1 = some (.code y cc maxL none)) && (decide (ret = none) && (decide (m_wd p4 = some (.initialized y.cls)) && (decide (m_wd p2 = some (.instanceMethod y)) && (decide (y.name = "<init>") && (decide ((parseMethodDescriptor y.desc).map (fun d => d.parameters.length + 1) = some na)
    && (decide (m_cn[oc]? = some y.cls) && (decide (y.cls ≠ "java/lang/invoke/MethodHandle") && (decide (y.cls ≠ "java/lang/invoke/VarHandle") && (plainName y.cls && (decide (maxL + 19 ≤ 60) && ops.all (b_ochk oc cc maxL)))))))))))
theorem b_mt_ok : b_mt.all b_mchk = true := by decide +kernel
theorem b_law_ok : co_L_law.all (b_ochk 13 cL_law 4) = true := by decide +kernel
theorem b_oi_ok : m_wd b_oiM = some (.instanceMethod objectInit) ∧ m_wd b_oiC = some (.code objectInit ⟨#[0xb1]⟩ 1 none) ∧ m_wd b_over = some (.arrayOver (.object "NailedByWord$Shelf")) := by decide +kernel
theorem b_def_ok : ∀ c, c < 13 → ∀ j, j < (b_def c).length → defaultValue (m_tyOf c j) = vp_V (b_def c) j := by decide +kernel
