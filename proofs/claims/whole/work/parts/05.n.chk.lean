/-! ===== what a program decides of each instruction: its bytes, its links ===== -/
def tcode (ty : FieldType) (put : Bool) : Nat := match ty with | .int => 0 | .boolean => cond put 3 0 | .long => 1 | _ => 2
def chkT (k pc : Nat) (offs : List Int) (j : Nat) (tl : List Nat) : Bool := match offs, tl with
  | [], [] => true
  | o :: offs, a :: t :: tl => Nat.beq a j && decide ((pc : Int) + o = (pcf k t : Int)) && chkT k pc offs (j + 1) tl
  | _, _ => false
def chkL (k pc : Nat) (ps : List (Int × Int)) (tl : List Nat) : Bool := match ps, tl with
  | [], [] => true
  | o :: ps, a :: t :: tl => decide (o.1 = (a : Int)) && Nat.blt a 1000 && decide ((pc : Int) + o.2 = (pcf k t : Int)) && chkL k pc ps tl
  | _, _ => false
/-- a call's own facts: the link is there, the number of values, the receiver's class, the answer's kind, handlers -/
def chkC (k : Nat) (ix a b : Nat) (tl : List Nat) (kind : Nat) : Bool :=
  Nat.blt a (NM - 1) && Nat.ble b (mxl a) && decide ((parseMethodDescriptor (yM a).desc).map (fun d => d.parameters.length) = some (b - (cond (Nat.beq kind 1) 0 1))) && Nat.ble (cond (Nat.beq kind 1) 0 1) b &&
  Nat.beq (mpl a).2.1 (cond (Nat.beq kind 1) 1 0) && Nat.beq (tl.getD 1 9) (match rM a with | none => 0 | some .long => 2 | _ => 1) &&
  (match kind with
   | 0 => memM mlk (mown k) ix a && Nat.beq (tl.getD 0 99) (mown a) && Nat.blt (mown a) 12 && List.isEmpty (hM a) && (List.isEmpty (tl.drop 2) || !(List.isEmpty (hM k)))
   | 1 => (memM mlk (mown k) ix a && (List.isEmpty (hM a) && List.isEmpty (tl.drop 2) && List.isEmpty (hM k) || decide (tl.drop 2 = [0]))) || (memM mlkN (mown k) ix a && List.isEmpty (hM a) && decide (tl.drop 2 = [0]))
   | _ => (memM mlk (mown k) ix a || memM mlkN (mown k) ix a) && List.isEmpty (hM a) && decide (tl.drop 2 = [0]) && decide ((yM a).name = "<init>") && decide (rM a = none))
def chk (k i : Nat) (ai : AIns) : Bool := match ai with
  | (ins, a, b, c, tl) =>
    decide (decode (bM k) (pcf k i) = .ok (ins, pcf k (i + 1) - pcf k i)) && Nat.ble (pcf k i) (pcf k (i + 1)) && (match ins with
    | .iconst n => Nat.beq (pcf k (i + 1)) (pcf k i + 1) && decide (Int32.ofInt n = c)
    | .bipush n => Nat.beq (pcf k (i + 1)) (pcf k i + 2) && decide ((Int8.ofInt n).toInt32 = c)
    | .sipush n => Nat.beq (pcf k (i + 1)) (pcf k i + 3) && decide ((Int16.ofInt n).toInt32 = c)
    | .ldc ix => Nat.beq (pcf k (i + 1)) (pcf k i + 2) && (cond (Nat.beq a 0) (memC cst (mown k) ix c) (Nat.beq a 999999 || (Nat.beq (mown k) 7 && (Nat.beq a 900001 && Nat.beq ix 86 || Nat.beq a 900002 && Nat.beq ix 78))))
    | .ldc_w ix => Nat.beq (pcf k (i + 1)) (pcf k i + 3) && (memC cst (mown k) ix c || Nat.beq a 999999)
    | .lconst n => Nat.beq (pcf k (i + 1)) (pcf k i + 1) && decide ((n : Nat) = a)
    | .ldc2_w ix => Nat.beq (pcf k (i + 1)) (pcf k i + 3) && memM cstJ (mown k) ix a
    | .iload n => Nat.beq (pcf k (i + 1)) (pcf k i + 2) && Nat.beq n a
    | .lload n => Nat.beq (pcf k (i + 1)) (pcf k i + 2) && Nat.beq n a
    | .aload n => Nat.beq (pcf k (i + 1)) (pcf k i + 2) && Nat.beq n a
    | .istore n => Nat.beq (pcf k (i + 1)) (pcf k i + 2) && Nat.beq n a
    | .lstore n => Nat.beq (pcf k (i + 1)) (pcf k i + 2) && Nat.beq n a
    | .astore n => Nat.beq (pcf k (i + 1)) (pcf k i + 2) && Nat.beq n a
    | .iload_n n => Nat.beq (pcf k (i + 1)) (pcf k i + 1) && decide ((n : Nat) = a)
    | .lload_n n => Nat.beq (pcf k (i + 1)) (pcf k i + 1) && decide ((n : Nat) = a)
    | .aload_n n => Nat.beq (pcf k (i + 1)) (pcf k i + 1) && decide ((n : Nat) = a)
    | .istore_n n => Nat.beq (pcf k (i + 1)) (pcf k i + 1) && decide ((n : Nat) = a)
    | .lstore_n n => Nat.beq (pcf k (i + 1)) (pcf k i + 1) && decide ((n : Nat) = a)
    | .astore_n n => Nat.beq (pcf k (i + 1)) (pcf k i + 1) && decide ((n : Nat) = a)
    | .iinc n v => Nat.beq (pcf k (i + 1)) (pcf k i + 3) && Nat.beq n a && decide (Int32.ofInt v = c)
    | .goto o => Nat.beq (pcf k (i + 1)) (pcf k i + 3) && decide ((pcf k i : Int) + o = (pcf k a : Int))
    | .ifCond _ o => Nat.beq (pcf k (i + 1)) (pcf k i + 3) && decide ((pcf k i : Int) + o = (pcf k a : Int))
    | .if_icmp _ o => Nat.beq (pcf k (i + 1)) (pcf k i + 3) && decide ((pcf k i : Int) + o = (pcf k a : Int))
    | .tableswitch df lo hi offs => decide (lo = (lo.toNat : Int)) && Nat.blt lo.toNat 1000 && decide (hi + 1 = (lo.toNat : Int) + (offs.toList.length : Int)) && Nat.blt offs.toList.length 1000 && decide ((pcf k i : Int) + df = (pcf k a : Int)) && chkT k (pcf k i) offs.toList lo.toNat tl
    | .lookupswitch df ps => decide ((pcf k i : Int) + df = (pcf k a : Int)) && (ps.toList.zip (ps.toList.drop 1)).all (fun (a, next) => a.1 < next.1) && chkL k (pcf k i) ps.toList tl
    | .getfield ix => Nat.beq (pcf k (i + 1)) (pcf k i + 3) && (memF flk (mown k) ix a b || memF flkN (mown k) ix a b) && decide (tl = [tcode (tyc a b) false]) && Nat.blt b (Nf a) && Nat.blt a 12
    | .putfield ix => Nat.beq (pcf k (i + 1)) (pcf k i + 3) && memF flk (mown k) ix a b && decide (tl = [tcode (tyc a b) true]) && Nat.blt b (Nf a) && Nat.blt a 12 && (!(Tc a b).2.2.2 || (decide ((yM k).name = "<init>") && decide ((Tc a b).1 = cnm (mown k))))
    | .newarray ty => Nat.beq (pcf k (i + 1)) (pcf k i + 2) && (match ty with | .int => Nat.beq a 12 | .boolean => Nat.beq a 13 | .long => Nat.beq a 14 | _ => false)
    | .new ix => Nat.beq (pcf k (i + 1)) (pcf k i + 3) && (Nat.ble 1000 a || (memM clk (mown k) ix a && Nat.beq b (Nf a) && Nat.blt a 12))
    | .invokevirtual ix => Nat.beq (pcf k (i + 1)) (pcf k i + 3) && (cond (Nat.ble 1000 a) (Nat.beq a 1999 || memM nlk (mown k) ix a && (Nat.beq a 1010 || Nat.beq a 1011 || Nat.beq a 1012)) (chkC k ix a b tl 0))
    | .invokestatic ix => Nat.beq (pcf k (i + 1)) (pcf k i + 3) && (cond (Nat.ble 1000 a) (Nat.beq a 1999 || memM nlk (mown k) ix a && (Nat.beq a 1000 || Nat.beq a 1001 || Nat.beq a 1002 || Nat.beq a 1003)) (chkC k ix a b tl 1))
    | .invokespecial ix => Nat.beq (pcf k (i + 1)) (pcf k i + 3) && (cond (Nat.ble 1000 a) (Nat.beq a 1999 || memM nlk (mown k) ix a && Nat.beq a 1020) (chkC k ix a b tl 2))
    | .ireturn => Nat.beq (pcf k (i + 1)) (pcf k i + 1) && (decide (rM k = some .int) && Nat.beq a 0 || decide (rM k = some .boolean) && Nat.beq a 1)
    | .lreturn => Nat.beq (pcf k (i + 1)) (pcf k i + 1) && decide (rM k = some .long)
    | .return_ => Nat.beq (pcf k (i + 1)) (pcf k i + 1) && decide (rM k = none)
    | _ => Nat.beq (pcf k (i + 1)) (pcf k i + 1))
def chkA (k : Nat) : List AIns → Nat → Bool
  | [], _ => true
  | ai :: l, i => chk k i ai && chkA k l (i + 1)
def chkM (k : Nat) : Bool := chkA k (code0 k) 0
theorem chkA_at {k : Nat} : ∀ {l : List AIns} {i j : Nat} {ai : AIns}, chkA k l i = true → l[j]? = some ai → chk k (i + j) ai = true
  | [], _, _, _, _, h => by simp at h
  | a :: l, i, 0, ai, hc, h => by
    simp only [chkA, Bool.and_eq_true] at hc
    simp only [List.getElem?_cons_zero, Option.some.injEq] at h
    subst h
    exact hc.1
  | a :: l, i, j + 1, ai, hc, h => by
    simp only [chkA, Bool.and_eq_true] at hc
    rw [List.getElem?_cons_succ] at h
    have := chkA_at hc.2 h
    rwa [Nat.add_right_comm, Nat.add_assoc] at this
theorem chkM_at {k i : Nat} {ai : AIns} (hc : chkM k = true) (h : (code0 k)[i]? = some ai) : chk k i ai = true := by
  have := chkA_at hc h
  rwa [Nat.zero_add] at this
