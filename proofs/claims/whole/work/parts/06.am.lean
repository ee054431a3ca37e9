/-! ===== THE ABSTRACT MACHINE (AM): its state, one instruction, runs ===== -/
/-- a cell: its kind (0..11 a class, 12 int[], 13 boolean[], 14 long[]), its length, its fields that are references -/
abbrev ACell : Type := Nat × Nat × List (Option Nat)
/-- a heap: cells, how many exceptions were made, the ints, the longs -/
abbrev Hp : Type := List ACell × Nat × (Nat → Nat → Int32) × (Nat → Nat → Int64)
abbrev Rs : Type := (Option Value ⊕ Nat) × Hp
abbrev FS : Type := Nat × List Value × List Value × Hp
/-- a call: method, its values, heap; kind of its answer; where to go on, locals, stack; handlers -/
abbrev ACall : Type := (Nat × List Value × Hp) × Nat × (Nat × List Value × List Value) × List Nat
abbrev Act : Type := List (Bool × FS) ⊕ ((Bool × Rs) ⊕ ACall)
abbrev XS : Type := (Nat → Int32) × Nat
def ud (D : Nat → Nat → Int32) (q k : Nat) (v : Int32) : Nat → Nat → Int32 := fun a b => if a = q ∧ b = k then v else D a b
def uj (D : Nat → Nat → Int64) (q k : Nat) (v : Int64) : Nat → Nat → Int64 := fun a b => if a = q ∧ b = k then v else D a b
def uz (D : Nat → Nat → Int32) (q : Nat) : Nat → Nat → Int32 := fun a b => if a = q then 0 else D a b
def ujz (D : Nat → Nat → Int64) (q : Nat) : Nat → Nat → Int64 := fun a b => if a = q then 0 else D a b
def ucp (D : Nat → Nat → Int32) (s sp d dp n : Nat) : Nat → Nat → Int32 := fun a b => if a = d ∧ dp ≤ b ∧ b < dp + n then D s (sp + (b - dp)) else D a b
def stk : Act := .inl []
def go1 (s : FS) : Act := .inl [(true, s)]
def pI (st : List Value) (k : Int32 → List Value → Act) : Act := match st with | .int x :: r => k x r | _ => stk
def pR (st : List Value) (k : Nat → List Value → Act) : Act := match st with | .ref x :: r => k x r | _ => stk
def pJ (st : List Value) (k : Int64 → List Value → Act) : Act := match st with | .long x :: r => k x r | _ => stk
def gI (ls : List Value) (j : Nat) (k : Int32 → Act) : Act := match ls[j]? with | some (.int x) => k x | _ => stk
def gR (ls : List Value) (j : Nat) (k : Nat → Act) : Act := match ls[j]? with | some (.ref x) => k x | _ => stk
def gJ (ls : List Value) (j : Nat) (k : Int64 → Act) : Act := match ls[j]? with | some (.long x) => k x | _ => stk
def lng (v : Value) : Bool := match v with | .long _ => true | .double _ => true | _ => false
/-- a store of one word: nothing long lies over that place -/
def sto (ls : List Value) (j : Nat) (v : Value) (k : List Value → Act) : Act :=
  cond (Nat.blt j ls.length && (Nat.beq j 0 || !(lng (ls.getD (j - 1) .null)))) (k (ls.set j v)) stk
def stoJ (ls : List Value) (j : Nat) (v : Value) (k : List Value → Act) : Act :=
  cond (Nat.blt (j + 1) ls.length && (Nat.beq j 0 || !(lng (ls.getD (j - 1) .null)))) (k ((ls.set j v).set (j + 1) .null)) stk
def cel (h : Hp) (q : Nat) (k : Nat → Nat → List (Option Nat) → Act) : Act := match h.1[q]? with | some (kd, n, rf) => k kd n rf | none => stk
def aSCR : Nat := 900000
def ob (i : Int32) (n : Nat) : Bool := !(decide (i < 0) || Nat.ble n i.toNatClampNeg)
def swt (x : Int32) (f : Nat → FS) (d : Nat) : List Nat → List (Bool × FS)
  | a :: t :: l => (decide (x = Int32.ofNat a), f t) :: swt x f d l
  | _ => [(true, f d)]
/-- what stays on the stack under a call has room -/
def rsOk (l : List Value) : Bool := Nat.ble l.length 4 || (Nat.ble l.length 8 && l.all (fun v => !(lng v)))
def inv (X : XS) (a b : Nat) (tl : List Nat) (i : Nat) (ls st : List Value) (h : Hp) : Act :=
  cond (Nat.ble b st.length && rsOk (st.drop b) && (st.take b).all (fun v => !(lng v))) (.inr (.inr ((a, (st.take b).reverse, h), tl.getD 1 0, (i + 1, ls, st.drop b), tl.drop 2))) stk
/-- String constants: their bytes -/
def txt (j : Nat) : List Nat := if j = 900001 then "person seats arrives sulks minds or and not age pew seat moved away sunday theirs ".toList.map (fun c => c.toNat) else ";()+-*/<=".toList.map (fun c => c.toNat)
def ixo (l : List Nat) (x : Int32) (i : Nat) : Int32 := match l with | [] => -1 | a :: l => if x = Int32.ofNat a then Int32.ofNat i else ixo l x (i + 1)
/-- what is done natively, or by rows of the kit: by its number -/
def ntv (a : Nat) (i : Nat) (ls st : List Value) (h : Hp) : Act := cond (Nat.ble st.length 5) (match a with
  | 1000 => pI st fun y r => pI r fun x r => go1 (i + 1, ls, .int (if x < y then y else x) :: r, h)
  | 1001 => pI st fun y r => pI r fun x r => go1 (i + 1, ls, .int (if y < x then y else x) :: r, h)
  | 1002 => pI st fun x r => go1 (i + 1, ls, .int (if 0 ≤ x then x else 0 - x) :: r, h)
  | 1003 => pI st fun n r => pI r fun dp r => pR r fun d r => pI r fun sp r => pR r fun s r => cel h s fun k0 n0 _ => cel h d fun k1 n1 _ =>
      cond (Nat.beq k0 12 && Nat.beq k1 12) (.inl [(decide (¬ sp < 0) && decide (¬ dp < 0) && decide (¬ n < 0) && Nat.ble (sp.toNatClampNeg + n.toNatClampNeg) n0 && Nat.ble (dp.toNatClampNeg + n.toNatClampNeg) n1, (i + 1, ls, r, (h.1, h.2.1, ucp h.2.2.1 s sp.toNatClampNeg d dp.toNatClampNeg n.toNatClampNeg, h.2.2.2)))]) stk
  | 1010 => pR st fun q r => cond (Nat.ble 900001 q) (go1 (i + 1, ls, .int (Int32.ofNat (txt q).length) :: r, h)) stk
  | 1011 => pI st fun x r => pR r fun q r => cond (Nat.ble 900001 q) (.inl [(ob x (txt q).length, (i + 1, ls, .int (Int32.ofNat ((txt q).getD x.toNatClampNeg 0)) :: r, h))]) stk
  | 1012 => pI st fun x r => pR r fun q r => cond (Nat.ble 900001 q) (.inl [(decide (0 ≤ x) && decide (x ≤ 65535), (i + 1, ls, .int (ixo (txt q) x 0) :: r, h))]) stk
  | 1020 => pR st fun _ r => go1 (i + 1, ls, r, h)
  | _ => stk) stk
def brc (c : ClassFile.Cond) (x y : Int32) : Bool := match c with
  | .eq => decide (x = y) | .ne => decide (¬ x = y) | .lt => decide (x < y) | .ge => decide (y ≤ x) | .gt => decide (y < x) | .le => decide (x ≤ y)
/-- one instruction -/
def act (X : XS) (ai : AIns) (i : Nat) (ls st : List Value) (h : Hp) : Act := match ai with
  | (ins, a, b, c, tl) => match ins with
    | .iconst _ => go1 (i + 1, ls, .int c :: st, h)
    | .bipush _ => go1 (i + 1, ls, .int c :: st, h)
    | .sipush _ => go1 (i + 1, ls, .int c :: st, h)
    | .ldc _ => cond (Nat.beq a 0) (go1 (i + 1, ls, .int c :: st, h)) (cond (Nat.beq a 900001 || Nat.beq a 900002) (go1 (i + 1, ls, .ref a :: st, h)) stk)
    | .ldc_w _ => cond (Nat.beq a 0) (go1 (i + 1, ls, .int c :: st, h)) stk
    | .lconst _ => go1 (i + 1, ls, .long (Int64.ofNat a) :: st, h)
    | .ldc2_w _ => go1 (i + 1, ls, .long (Int64.ofNat a) :: st, h)
    | .iload _ => gI ls a fun x => go1 (i + 1, ls, .int x :: st, h)
    | .iload_n _ => gI ls a fun x => go1 (i + 1, ls, .int x :: st, h)
    | .lload _ => gJ ls a fun x => go1 (i + 1, ls, .long x :: st, h)
    | .lload_n _ => gJ ls a fun x => go1 (i + 1, ls, .long x :: st, h)
    | .aload _ => gR ls a fun x => go1 (i + 1, ls, .ref x :: st, h)
    | .aload_n _ => gR ls a fun x => go1 (i + 1, ls, .ref x :: st, h)
    | .istore _ => pI st fun x r => sto ls a (.int x) fun ls => go1 (i + 1, ls, r, h)
    | .istore_n _ => pI st fun x r => sto ls a (.int x) fun ls => go1 (i + 1, ls, r, h)
    | .astore _ => pR st fun x r => sto ls a (.ref x) fun ls => go1 (i + 1, ls, r, h)
    | .astore_n _ => pR st fun x r => sto ls a (.ref x) fun ls => go1 (i + 1, ls, r, h)
    | .lstore _ => pJ st fun x r => stoJ ls a (.long x) fun ls => go1 (i + 1, ls, r, h)
    | .lstore_n _ => pJ st fun x r => stoJ ls a (.long x) fun ls => go1 (i + 1, ls, r, h)
    | .iinc _ _ => gI ls a fun x => sto ls a (.int (x + c)) fun ls => go1 (i + 1, ls, st, h)
    | .iadd => pI st fun y r => pI r fun x r => go1 (i + 1, ls, .int (x + y) :: r, h)
    | .isub => pI st fun y r => pI r fun x r => go1 (i + 1, ls, .int (x - y) :: r, h)
    | .imul => pI st fun y r => pI r fun x r => go1 (i + 1, ls, .int (x * y) :: r, h)
    | .iand => pI st fun y r => pI r fun x r => go1 (i + 1, ls, .int (x &&& y) :: r, h)
    | .ior => pI st fun y r => pI r fun x r => go1 (i + 1, ls, .int (x ||| y) :: r, h)
    | .ixor => pI st fun y r => pI r fun x r => go1 (i + 1, ls, .int (x ^^^ y) :: r, h)
    | .ishl => pI st fun y r => pI r fun x r => go1 (i + 1, ls, .int (x <<< (y &&& 31)) :: r, h)
    | .ishr => pI st fun y r => pI r fun x r => go1 (i + 1, ls, .int (x >>> (y &&& 31)) :: r, h)
    | .iushr => pI st fun y r => pI r fun x r => go1 (i + 1, ls, .int (x.toUInt32 >>> (y.toUInt32 &&& Int32.toUInt32 31)).toInt32 :: r, h)
    | .ineg => pI st fun x r => go1 (i + 1, ls, .int (-x) :: r, h)
    | .idiv => pI st fun y r => pI r fun x r => .inl [(decide (¬ y = 0), (i + 1, ls, .int (x / y) :: r, h))]
    | .irem => pI st fun y r => pI r fun x r => .inl [(decide (¬ y = 0), (i + 1, ls, .int (x - x / y * y) :: r, h))]
    | .i2l => pI st fun x r => go1 (i + 1, ls, .long x.toInt64 :: r, h)
    | .i2c => pI st fun x r => go1 (i + 1, ls, .int (x.toUInt32 % 65536).toInt32 :: r, h)
    | .lsub => pJ st fun y r => pJ r fun x r => go1 (i + 1, ls, .long (x - y) :: r, h)
    | .lor => pJ st fun y r => pJ r fun x r => go1 (i + 1, ls, .long (x ||| y) :: r, h)
    | .lshl => pI st fun y r => pJ r fun x r => go1 (i + 1, ls, .long (x <<< (y.toInt64 &&& 63)) :: r, h)
    | .lcmp => pJ st fun y r => pJ r fun x r => go1 (i + 1, ls, .int (lg_cmp x y) :: r, h)
    | .dup => match st with
      | .int x :: r => go1 (i + 1, ls, .int x :: .int x :: r, h)
      | .ref x :: r => go1 (i + 1, ls, .ref x :: .ref x :: r, h)
      | _ => stk
    | .dup2 => pI st fun y r => match r with
      | .int x :: r => go1 (i + 1, ls, .int y :: .int x :: .int y :: .int x :: r, h)
      | .ref x :: r => go1 (i + 1, ls, .int y :: .ref x :: .int y :: .ref x :: r, h)
      | _ => stk
    | .pop => pI st fun _ r => go1 (i + 1, ls, r, h)
    | .goto _ => go1 (a, ls, st, h)
    | .ifCond cc _ => pI st fun x r => .inl [(brc cc x 0, (a, ls, r, h)), (true, (i + 1, ls, r, h))]
    | .if_icmp cc _ => pI st fun y r => pI r fun x r => .inl [(brc cc x y, (a, ls, r, h)), (true, (i + 1, ls, r, h))]
    | .tableswitch _ _ _ _ => pI st fun x r => .inl (swt x (fun t => (t, ls, r, h)) a tl)
    | .lookupswitch _ _ => pI st fun x r => .inl (swt x (fun t => (t, ls, r, h)) a tl)
    | .getfield _ => pR st fun q r => cel h q fun kd _ rf => cond (Nat.beq kd a) (match tl with
        | [0] => go1 (i + 1, ls, .int (h.2.2.1 q b) :: r, h)
        | [1] => go1 (i + 1, ls, .long (h.2.2.2 q b) :: r, h)
        | [2] => match rf[b]? with | some (some p) => go1 (i + 1, ls, .ref p :: r, h) | _ => stk
        | _ => stk) stk
    | .putfield _ => match tl with
        | [0] => pI st fun v r => pR r fun q r => cel h q fun kd _ _ => cond (Nat.beq kd a) (go1 (i + 1, ls, r, (h.1, h.2.1, ud h.2.2.1 q b v, h.2.2.2))) stk
        | [3] => pI st fun v r => pR r fun q r => cel h q fun kd _ _ => cond (Nat.beq kd a) (.inl [((decide (v = 0) || decide (v = 1)), (i + 1, ls, r, (h.1, h.2.1, ud h.2.2.1 q b v, h.2.2.2)))]) stk
        | [1] => pJ st fun v r => pR r fun q r => cel h q fun kd _ _ => cond (Nat.beq kd a) (go1 (i + 1, ls, r, (h.1, h.2.1, h.2.2.1, uj h.2.2.2 q b v))) stk
        | [2] => pR st fun v r => pR r fun q r => cel h q fun kd n rf => cond (Nat.beq kd a && Nat.blt v h.1.length && Nat.blt b rf.length) (go1 (i + 1, ls, r, (h.1.set q (kd, n, rf.set b (some v)), h.2))) stk
        | _ => stk
    | .iaload => pI st fun x r => pR r fun q r => cond (Nat.beq q aSCR) (.inl [(ob x X.2, (i + 1, ls, .int (X.1 x.toNatClampNeg) :: r, h))])
        (cel h q fun kd n _ => cond (Nat.beq kd 12) (.inl [(ob x n, (i + 1, ls, .int (h.2.2.1 q x.toNatClampNeg) :: r, h))]) stk)
    | .baload => pI st fun x r => pR r fun q r => cel h q fun kd n _ => cond (Nat.beq kd 13) (.inl [(ob x n, (i + 1, ls, .int (h.2.2.1 q x.toNatClampNeg) :: r, h))]) stk
    | .laload => pI st fun x r => pR r fun q r => cel h q fun kd n _ => cond (Nat.beq kd 14) (.inl [(ob x n, (i + 1, ls, .long (h.2.2.2 q x.toNatClampNeg) :: r, h))]) stk
    | .iastore => pI st fun v r => pI r fun x r => pR r fun q r => cel h q fun kd n _ => cond (Nat.beq kd 12) (.inl [(ob x n, (i + 1, ls, r, (h.1, h.2.1, ud h.2.2.1 q x.toNatClampNeg v, h.2.2.2)))]) stk
    | .bastore => pI st fun v r => pI r fun x r => pR r fun q r => cel h q fun kd n _ => cond (Nat.beq kd 13) (.inl [(ob x n && (decide (v = 0) || decide (v = 1)), (i + 1, ls, r, (h.1, h.2.1, ud h.2.2.1 q x.toNatClampNeg v, h.2.2.2)))]) stk
    | .lastore => pJ st fun v r => pI r fun x r => pR r fun q r => cel h q fun kd n _ => cond (Nat.beq kd 14) (.inl [(ob x n, (i + 1, ls, r, (h.1, h.2.1, h.2.2.1, uj h.2.2.2 q x.toNatClampNeg v)))]) stk
    | .arraylength => pR st fun q r => cond (Nat.beq q aSCR) (go1 (i + 1, ls, .int (Int32.ofNat X.2) :: r, h)) (cel h q fun kd n _ => cond (Nat.ble 12 kd && Nat.ble kd 14) (go1 (i + 1, ls, .int (Int32.ofNat n) :: r, h)) stk)
    | .newarray _ => pI st fun x r => cond (Nat.beq h.2.1 0 && decide (x = Int32.ofNat b) && Nat.ble b 100000 && Nat.blt h.1.length 900000) (go1 (i + 1, ls, .ref h.1.length :: r, (h.1 ++ [(a, b, [])], h.2.1, uz h.2.2.1 h.1.length, ujz h.2.2.2 h.1.length))) stk
    | .new _ => cond (Nat.ble 1000 a) (cond (Nat.ble st.length 100) (.inr (.inl (true, .inr (a - 1000), (h.1, h.2.1 + 1, h.2.2)))) stk)
        (cond (Nat.beq h.2.1 0 && Nat.blt h.1.length 900000) (go1 (i + 1, ls, .ref h.1.length :: st, (h.1 ++ [(a, b, List.replicate b none)], h.2.1, uz h.2.2.1 h.1.length, ujz h.2.2.2 h.1.length))) stk)
    | .invokevirtual _ => cond (Nat.ble 1000 a) (ntv a i ls st h) (match (st.take b).getLast? with
        | some (.ref q) => cel h q fun kd _ _ => cond (Nat.beq kd (tl.getD 0 0)) (inv X a b tl i ls st h) stk
        | _ => stk)
    | .invokestatic _ => cond (Nat.ble 1000 a) (ntv a i ls st h) (inv X a b tl i ls st h)
    | .invokespecial _ => cond (Nat.ble 1000 a) (ntv a i ls st h) (match (st.take b).getLast? with
        | some (.ref _) => inv X a b tl i ls st h
        | _ => stk)
    | .ireturn => pI st fun x r => match r with | [] => .inr (.inl (Nat.beq a 0 || (decide (x = 0) || decide (x = 1)), .inl (some (.int x)), h)) | _ => stk
    | .lreturn => pJ st fun x r => match r with | [] => .inr (.inl (true, .inl (some (.long x)), h)) | _ => stk
    | .return_ => match st with | [] => .inr (.inl (true, .inl none, h)) | _ => stk
    | _ => stk
def sel (f : FS → Option Rs) : List (Bool × FS) → Option Rs
  | [] => none
  | (b, s) :: l => if b = true then f s else sel f l
/-- an exception at a call: handlers (which, where to, the local that gets it), or it goes on -/
def thr (nx : FS → Option Rs) (ls : List Value) (e : Nat) (h : Hp) : List Nat → Option Rs
  | a :: j :: k :: l => if e = a then nx (j, (ls.map fun v => cond (lng v) .null v).set k .null, [], h) else thr nx ls e h l
  | [] => some (.inr e, h)
  | _ => none
def bV (r : Option Rs) (k : Hp → Option Rs) (t : Nat → Hp → Option Rs) : Option Rs := match r with
  | some (.inl none, h) => k h
  | some (.inr e, h) => t e h
  | _ => none
def bI (r : Option Rs) (k : Int32 → Hp → Option Rs) (t : Nat → Hp → Option Rs) : Option Rs := match r with
  | some (.inl (some (.int x)), h) => k x h
  | some (.inr e, h) => t e h
  | _ => none
def bJ (r : Option Rs) (k : Int64 → Hp → Option Rs) (t : Nat → Hp → Option Rs) : Option Rs := match r with
  | some (.inl (some (.long x)), h) => k x h
  | some (.inr e, h) => t e h
  | _ => none
/-- behind a call: what its answer r makes of the frame -/
def cnt (nx : FS → Option Rs) (rk i : Nat) (ls st : List Value) (hs : List Nat) (r : Option Rs) : Option Rs := match rk with
  | 0 => bV r (fun h => nx (i, ls, st, h)) (fun e h => thr nx ls e h hs)
  | 1 => bI r (fun x h => nx (i, ls, .int x :: st, h)) (fun e h => thr nx ls e h hs)
  | _ => bJ r (fun x h => nx (i, ls, .long x :: st, h)) (fun e h => thr nx ls e h hs)
def ex (nx : FS → Option Rs) (cl : Nat → List Value → Hp → Option Rs) : Act → Option Rs
  | .inl l => sel nx l
  | .inr (.inl (b, r)) => if b = true then some r else none
  | .inr (.inr ((m, as, h), rk, (i, ls, st), hs)) => cnt nx rk i ls st hs (cl m as h)
