/-! WHAT THE TABLES SAY IS SO: each row of the tables is held against the code and the words of lw_tbl, by the kernel -/
/-- a word by its place: 1000 times the list's number, and the place there -/
def m_wd (q : Nat) : Option Jvm.Cond := match q / 1000 with
  | 0 => (k2_sels lw_privs)[q % 1000]?
  | 1 => tables_1_1[q % 1000]?
  | 2 => tables_1_2[q % 1000]?
  | 3 => tables_1_3[q % 1000]?
  | 4 => tables_1_4[q % 1000]?
  | 5 => tables_1_5[q % 1000]?
  | 6 => tables_1_6[q % 1000]?
  | 7 => tables_1_7[q % 1000]?
  | 8 => tables_1_8[q % 1000]?
  | _ => none
theorem m_wd_in {q : Nat} {w : Jvm.Cond} (h : m_wd q = some w) : w ∈ lw_tbl := by
  unfold m_wd at h
  unfold lw_tbl tables_1
  simp only [List.mem_append]
  split at h
  · exact Or.inl (List.mem_of_getElem? h)
  · exact Or.inr (Or.inl (List.mem_of_getElem? h))
  · exact Or.inr (Or.inr (Or.inl (List.mem_of_getElem? h)))
  · exact Or.inr (Or.inr (Or.inr (Or.inl (List.mem_of_getElem? h))))
  · exact Or.inr (Or.inr (Or.inr (Or.inr (Or.inl (List.mem_of_getElem? h)))))
  · exact Or.inr (Or.inr (Or.inr (Or.inr (Or.inr (Or.inl (List.mem_of_getElem? h))))))
  · exact Or.inr (Or.inr (Or.inr (Or.inr (Or.inr (Or.inr (Or.inl (List.mem_of_getElem? h)))))))
  · exact Or.inr (Or.inr (Or.inr (Or.inr (Or.inr (Or.inr (Or.inr (Or.inl (List.mem_of_getElem? h))))))))
  · exact Or.inr (Or.inr (Or.inr (Or.inr (Or.inr (Or.inr (Or.inr (Or.inr (List.mem_of_getElem? h))))))))
  · cases h
def m_host : String := "NailedByWord"
def m_own (oc : Nat) : String := (m_cn[oc]?).getD ""
def m_fchk (e : Nat × Nat × Nat × Nat × Bool) : Bool := match e with
  | (oc, idx, k, pl, nest) => match vwCl[k / 100]? with
    | some (_, T, N) => decide (k % 100 < N) && (match nest with
      | false => decide (m_wd pl = some (.fieldLink (m_own oc) idx (T (k % 100)).1 (T (k % 100)).2.1 (T (k % 100)).2.2.1))
      | true => decide (m_wd pl = some (.fieldLinkNest (m_own oc) idx (T (k % 100)).1 (T (k % 100)).2.1 (T (k % 100)).2.2.1 m_host)))
    | none => false
def m_gchk (e : Nat × Nat × Nat × Nat × Bool) : Bool := match e with
  | (oc, idx, k, pl, nest) => match m_sa[k]? with
    | some (c, n, d, _, _) => (match nest with
      | false => decide (m_wd pl = some (.fieldLink (m_own oc) idx (m_own c) n d))
      | true => decide (m_wd pl = some (.fieldLinkNest (m_own oc) idx (m_own c) n d m_host)))
    | none => false
def m_spn (k : Nat) : MethodName := match k with
  | 5000 => arraycopyName
  | 5001 => Lib.Math.max.name
  | 5002 => Lib.Math.min.name
  | _ => Lib.Math.abs.name
def m_lchk (e : Nat × Nat × Nat × Nat × Bool) : Bool := match e with
  | (oc, idx, k, pl, nest) => match Nat.ble 5000 k with
    | true => (match nest with
      | false => decide (m_wd pl = some (.methodLink (m_own oc) idx (m_spn k)))
      | true => false)
    | false => match m_mt k with
      | some m2 => (match nest with
        | false => decide (m_wd pl = some (.methodLink (m_own oc) idx m2.2.1))
        | true => decide (m_wd pl = some (.methodLinkNest (m_own oc) idx m2.2.1 m_host)))
      | none => false
def m_any (t : List (List (Nat × Nat × Nat × Nat × Bool))) (oc idx k : Nat) : Bool := match t[oc]? with
  | some l => l.any fun e => Nat.beq e.2.1 idx && (Nat.beq e.2.2.1 k && Nat.beq e.1 oc)
  | none => false
def m_tchk (pc : Nat) : Int → List Int → List (Int32 × Nat) → Bool
  | _, [], [] => true
  | lo, o :: os, q :: ts => decide (q.1.toInt = lo) && (decide ((pc : Int) + o = (q.2 : Int)) && m_tchk pc (lo + 1) os ts)
  | _, _, _ => false
def m_kchk (pc : Nat) : List (Int × Int) → List (Int32 × Nat) → Bool
  | [], [] => true
  | o :: os, q :: ts => decide (q.1.toInt = o.1) && (decide ((pc : Int) + o.2 = (q.2 : Int)) && m_kchk pc os ts)
  | _, _ => false
def m_stc (k : Nat) : Bool := match m_mt k with
  | some m2 => m2.2.2.2.2.2.2.1.2.2.2.2
  | none => false
def m_nfin (k : Nat) : Bool := match vwCl[k / 100]? with
  | some (_, T, _) => !(T (k % 100)).2.2.2
  | none => false
def m_ochk (oc : Nat) (cc : ByteArray) (maxL : Nat) (o : mO) : Bool := match o with
  | (pc, i, len, k, v, w, ts) => decide (decode cc pc = .ok (i, len)) && (match i with
    | .iconst n => Nat.beq len 1 && decide (Int32.ofInt n = v)
    | .bipush n => Nat.beq len 2 && decide ((Int8.ofInt n).toInt32 = v)
    | .sipush n => Nat.beq len 3 && decide ((Int16.ofInt n).toInt32 = v)
    | .lconst n => Nat.beq len 1 && decide (Int64.ofNat (n : Nat) = w)
    | .ldc n => Nat.beq len 2 && decide (m_wd k = some (.constant (m_own oc) n v))
    | .ldc_w n => Nat.beq len 3 && decide (m_wd k = some (.constant (m_own oc) n v))
    | .ldc2_w n => Nat.beq len 3 && decide (m_wd k = some (.constantLong (m_own oc) n w))
    | .iload_n n => Nat.beq len 1 && decide ((n : Nat) = k)
    | .lload_n n => Nat.beq len 1 && decide ((n : Nat) = k)
    | .aload_n n => Nat.beq len 1 && decide ((n : Nat) = k)
    | .iload n => Nat.beq len 2 && decide (n = k)
    | .lload n => Nat.beq len 2 && decide (n = k)
    | .aload n => Nat.beq len 2 && decide (n = k)
    | .istore_n n => Nat.beq len 1 && (decide ((n : Nat) = k) && decide (k < maxL))
    | .astore_n n => Nat.beq len 1 && (decide ((n : Nat) = k) && decide (k < maxL))
    | .lstore_n n => Nat.beq len 1 && (decide ((n : Nat) = k) && decide (k + 1 < maxL))
    | .istore n => Nat.beq len 2 && (decide (n = k) && decide (k < maxL))
    | .astore n => Nat.beq len 2 && (decide (n = k) && decide (k < maxL))
    | .lstore n => Nat.beq len 2 && (decide (n = k) && decide (k + 1 < maxL))
    | .iinc n q => Nat.beq len 3 && (decide (n = k) && (decide (Int32.ofInt q = v) && decide (k < maxL)))
    | .ifCond _ off => Nat.beq len 3 && decide ((pc : Int) + off = (k : Int))
    | .if_icmp _ off => Nat.beq len 3 && decide ((pc : Int) + off = (k : Int))
    | .goto off => Nat.beq len 3 && decide ((pc : Int) + off = (k : Int))
    | .tableswitch d lo hi os => decide ((pc : Int) + d = (k : Int)) && (decide (hi = lo + os.toList.length - 1) && m_tchk pc lo os.toList ts)
    | .lookupswitch d ps => decide ((pc : Int) + d = (k : Int)) && ((ps.toList.zip (ps.toList.drop 1)).all (fun (a, next) => a.1 < next.1) && m_kchk pc ps.toList ts)
    | .getfield idx => Nat.beq len 3 && m_any m_fl oc idx k
    | .putfield idx => Nat.beq len 3 && (m_nfin k && m_any m_fl oc idx k)
    | .getstatic idx => Nat.beq len 3 && m_any m_gs oc idx k
    | .invokevirtual idx => Nat.beq len 3 && (!(Nat.ble 5000 k) && (!(m_stc k) && m_any m_ml oc idx k))
    | .invokestatic idx => Nat.beq len 3 && ((Nat.ble 5000 k || m_stc k) && m_any m_ml oc idx k)
    | .new _ => true
    | .invokespecial _ => true
    | _ => Nat.beq len 1)
def m_mchk (mm : mM) : Bool := match mm with
  | (oc, y, cc, maxL, ret, na, (p1, p2, p3, p4, st), ops) =>
    decide (m_wd p1 = some (.code y cc maxL ret)) && (decide (m_wd p4 = some (.initialized y.cls)) && ((match st with
      | true => decide (m_wd p2 = some (.static y)) && decide ((parseMethodDescriptor y.desc).map (fun d => d.parameters.length) = some na)
      | false => decide (m_wd p2 = some (.instanceMethod y)) && (decide (m_wd p3 = some (.selects y.cls y y)) && decide ((parseMethodDescriptor y.desc).map (fun d => d.parameters.length + 1) = some na)))
    && (decide (m_cn[oc]? = some y.cls) && (decide (y.cls ≠ "java/lang/invoke/MethodHandle") && (decide (y.cls ≠ "java/lang/invoke/VarHandle") && (plainName y.cls && (decide (maxL + 19 ≤ 60) && ops.all (m_ochk oc cc maxL))))))))
