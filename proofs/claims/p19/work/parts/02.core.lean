/-! THE INTERPRETER: a small machine over lists of cells. A cell: an object (number of its class in vwCl, its fields), an int array (kind 0, numbers), an array of references (kind, places). A reference is a cell's number, or 1000000 + the number of a constant. -/
abbrev jE : Type := (Nat × List Value) ⊕ ((Nat × List Int32) ⊕ (Nat × List (Option Nat)))
/-- instruction, length, three numbers, a long -/
abbrev jI : Type := Instr × Nat × Nat × Nat × Nat × Int64
abbrev jC : Type := Nat × List (Nat × Value) × List Value × List jE
abbrev jR : Type := Option Value × List jE
abbrev jO : Type := Option (jC ⊕ jR)
def jK0 : Nat := 1000000
def jsz : jE → Nat
  | .inl o => o.2.length
  | .inr (.inl a) => a.2.length
  | .inr (.inr a) => a.2.length
def jsl (h : List jE) : Nat := (h.map jsz).sum
def jget : List (Nat × Value) → Nat → Option Value
  | [], _ => none
  | q :: r, i => bif q.1 == i then some q.2 else jget r i
def jput (L : List (Nat × Value)) (i : Nat) (v : Value) : List (Nat × Value) := (i, v) :: L.filter (fun q => !(q.1 == i) && !(q.1 + 1 == i && q.2.category == 2))
def jput2 (L : List (Nat × Value)) (i : Nat) (v : Value) : List (Nat × Value) := (i, v) :: L.filter (fun q => !(q.1 == i) && (!(q.1 == i + 1) && !(q.1 + 1 == i && q.2.category == 2)))
/-- an int array's number -/
def jat (l : List Int32) (j : Int32) : Option Int32 := if j < 0 then none else l[j.toNatClampNeg]?
def jcpy (f g : List Int32) (sp dp n : Nat) : List Int32 := (List.range g.length).map (fun k => if dp ≤ k ∧ k < dp + n then f.getD (sp + (k - dp)) 0 else g.getD k 0)
def jgo (t : Nat) (L : List (Nat × Value)) (st : List Value) (h : List jE) : jO := some (.inl (t, L, st, h))
def jcond (c : ClassFile.Cond) (x y : Int32) : Bool := match c with
  | .eq => decide (x = y)
  | .ne => decide (¬ x = y)
  | .lt => decide (x < y)
  | .ge => decide (y ≤ x)
  | .gt => decide (y < x)
  | .le => decide (x ≤ y)
/-- loads and stores of locals -/
def jloadI (L : List (Nat × Value)) (i t : Nat) (st : List Value) (h : List jE) : jO := match jget L i with
  | some (.int x) => jgo t L (.int x :: st) h
  | _ => none
def jloadL (L : List (Nat × Value)) (i t : Nat) (st : List Value) (h : List jE) : jO := match jget L i with
  | some (.long x) => jgo t L (.long x :: st) h
  | _ => none
def jloadA (L : List (Nat × Value)) (i t : Nat) (st : List Value) (h : List jE) : jO := match jget L i with
  | some (.ref x) => jgo t L (.ref x :: st) h
  | _ => none
def jstoreI (nL : Nat) (L : List (Nat × Value)) (i t : Nat) (st : List Value) (h : List jE) : jO := match st with
  | .int x :: r => bif Nat.blt i nL then jgo t (jput L i (.int x)) r h else none
  | _ => none
def jstoreA (nL : Nat) (L : List (Nat × Value)) (i t : Nat) (st : List Value) (h : List jE) : jO := match st with
  | .ref x :: r => bif Nat.blt i nL then jgo t (jput L i (.ref x)) r h else none
  | _ => none
def jstoreL (nL : Nat) (L : List (Nat × Value)) (i t : Nat) (st : List Value) (h : List jE) : jO := match st with
  | .long x :: r => bif Nat.blt (i + 1) nL then jgo t (jput2 L i (.long x)) r h else none
  | _ => none
/-- two ints, one int -/
def jop2 (f : Int32 → Int32 → Int32) (t : Nat) (L : List (Nat × Value)) (st : List Value) (h : List jE) : jO := match st with
  | .int y :: .int x :: r => jgo t L (.int (f x y) :: r) h
  | _ => none
def jop2L (f : Int64 → Int64 → Int64) (t : Nat) (L : List (Nat × Value)) (st : List Value) (h : List jE) : jO := match st with
  | .long y :: .long x :: r => jgo t L (.long (f x y) :: r) h
  | _ => none
def jop1 (f : Int32 → Int32) (t : Nat) (L : List (Nat × Value)) (st : List Value) (h : List jE) : jO := match st with
  | .int x :: r => jgo t L (.int (f x) :: r) h
  | _ => none
def jshL (f : Int64 → Int32 → Int64) (t : Nat) (L : List (Nat × Value)) (st : List Value) (h : List jE) : jO := match st with
  | .int y :: .long x :: r => jgo t L (.long (f x y) :: r) h
  | _ => none
/-- the numbers of an int array: a cell's, or a constant's -/
def jints (cs : Nat → Option (List Int32)) (h : List jE) (i : Nat) : Option (List Int32) := bif Nat.blt i jK0 then (match h[i]? with
  | some (.inr (.inl a)) => bif a.1 == 0 then some a.2 else none
  | _ => none) else cs (i - jK0)
def jiald (cs : Nat → Option (List Int32)) (t : Nat) (L : List (Nat × Value)) (st : List Value) (h : List jE) : jO := match st with
  | .int j :: .ref i :: r => match jints cs h i with
    | some l => match jat l j with
      | some x => jgo t L (.int x :: r) h
      | none => none
    | none => none
  | _ => none
def jiast (t : Nat) (L : List (Nat × Value)) (st : List Value) (h : List jE) : jO := match st with
  | .int x :: .int j :: .ref i :: r => match h[i]? with
    | some (.inr (.inl a)) => if a.1 = 0 ∧ ¬ j < 0 ∧ j.toNatClampNeg < a.2.length then jgo t L r (h.set i (.inr (.inl (0, a.2.set j.toNatClampNeg x)))) else none
    | _ => none
  | _ => none
def jaald (t : Nat) (L : List (Nat × Value)) (st : List Value) (h : List jE) : jO := match st with
  | .int j :: .ref i :: r => match h[i]? with
    | some (.inr (.inr a)) => if j < 0 ∨ ¬ (a.1 = 1 ∨ a.1 = 2 ∨ a.1 = 3) then none else match a.2[j.toNatClampNeg]? with
      | some (some q) => jgo t L (.ref q :: r) h
      | _ => none
    | _ => none
  | _ => none
/-- which arrays of references hold what: kind 2 objects of class 4 (Text), kind 3 Strings (constants) -/
def jmay (h : List jE) (k q : Nat) : Bool := bif k == 3 then Nat.ble (jK0 + 10) q && Nat.blt q (jK0 + 17) else bif k == 2 then (match h[q]? with
  | some (.inl o) => o.1 == 4
  | _ => false) else false
def jaast (t : Nat) (L : List (Nat × Value)) (st : List Value) (h : List jE) : jO := match st with
  | .ref q :: .int j :: .ref i :: r => match h[i]? with
    | some (.inr (.inr a)) => if jmay h a.1 q = true ∧ ¬ j < 0 ∧ j.toNatClampNeg < a.2.length then jgo t L r (h.set i (.inr (.inr (a.1, a.2.set j.toNatClampNeg (some q))))) else none
    | _ => none
  | _ => none
/-- the bytes of the String constants -/
def jbs (k : Nat) : Option (List Int32) := match k with
  | 30 => some []
  | 31 => some [115, 116, 103, 104, 110]
  | 32 => some [119, 118, 115, 116, 110]
  | 33 => some [115, 103, 119, 114, 107]
  | 34 => some [115, 116, 103, 104, 110]
  | 35 => some [119, 118, 115, 116, 110]
  | 36 => some [115, 103, 119, 114, 107]
  | _ => none
def jbq (i : Nat) : Option (List Int32) := bif Nat.beq i (jK0 + 30) then jbs 30 else bif Nat.beq i (jK0 + 31) then jbs 31 else bif Nat.beq i (jK0 + 32) then jbs 32 else bif Nat.beq i (jK0 + 33) then jbs 33 else bif Nat.beq i (jK0 + 34) then jbs 34 else bif Nat.beq i (jK0 + 35) then jbs 35 else bif Nat.beq i (jK0 + 36) then jbs 36 else none
/-- a String constant -/
def jstq (i : Nat) : Bool := Nat.ble (jK0 + 10) i && Nat.blt i (jK0 + 17)
def jbald (t : Nat) (L : List (Nat × Value)) (st : List Value) (h : List jE) : jO := match st with
  | .int j :: .ref i :: r => match jbq i with
    | some l => match jat l j with
      | some x => jgo t L (.int x :: r) h
      | none => none
    | none => none
  | _ => none
def jgetk (b t : Nat) (L : List (Nat × Value)) (st : List Value) (h : List jE) : jO := match st with
  | .ref i :: r => bif jstq i then (bif b == 0 then jgo t L (.ref (i + 20) :: r) h else jgo t L (.int 0 :: r) h) else none
  | _ => none
def jchar (v : Int32) : Bool := decide (0 ≤ v.toInt) && decide (v.toInt ≤ 127)
/-- String.checkIndex -/
def jnat (d : Nat) (vs : List Value) (h : List jE) : Option jR := match d, vs with
  | _ + 1, [.int j, .int n] => if 0 ≤ j ∧ j < n then some (none, h) else none
  | _, _ => none
def jalen (cs : Nat → Option (List Int32)) (t : Nat) (L : List (Nat × Value)) (st : List Value) (h : List jE) : jO := match st with
  | .ref i :: r => match jints cs h i with
    | some l => jgo t L (.int (Int32.ofNat l.length) :: r) h
    | none => match jbq i with
      | some l => jgo t L (.int (Int32.ofNat l.length) :: r) h
      | none => none
  | _ => none
def jgetf (ci k t : Nat) (L : List (Nat × Value)) (st : List Value) (h : List jE) : jO := match st with
  | .ref i :: r => match h[i]? with
    | some (.inl o) => bif o.1 == ci then (match o.2[k]? with
      | some v => jgo t L (v :: r) h
      | none => none) else none
    | _ => none
  | _ => none
/-- the field's type: 0 int, 1 boolean, 2 a reference -/
def jfit (ty : Nat) (v : Value) : Bool := match v with
  | .int x => ty == 0 || (ty == 1 && decide (x = 0 ∨ x = 1))
  | .ref _ => ty == 2
  | _ => false
def jputf (ci k ty t : Nat) (L : List (Nat × Value)) (st : List Value) (h : List jE) : jO := match st with
  | v :: .ref i :: r => match h[i]? with
    | some (.inl o) => bif o.1 == ci && (Nat.blt k o.2.length && jfit ty v) then jgo t L r (h.set i (.inl (ci, o.2.set k v))) else none
    | _ => none
  | _ => none
/-- the fields of a new object -/
def jdf (ci : Nat) : List Value := match ci with
  | 0 => [.int 0, .null, .null, .null, .null, .null, .int 0, .int 0, .int 0, .null, .null]
  | 1 => [.int 0, .int 0, .null, .null, .int 0, .null, .int 0]
  | 2 => [.null, .null, .null, .int 0]
  | 3 => [.null, .null, .null]
  | 4 => [.int 0, .null, .null]
  | 5 => [.int 0, .int 0, .null, .null, .int 0, .int 0, .int 0, .int 0]
  | 6 => [.null, .null, .null, .int 0, .null, .int 0, .int 0, .int 0, .int 0, .int 0, .int 0, .int 0, .null, .null]
  | 7 => [.null, .null, .null, .null, .null, .null, .null, .null, .int 0]
  | 8 => [.null, .null, .null, .int 0, .null, .null, .null, .int 0, .int 0, .int 0, .int 0, .null, .int 0, .null, .null, .null, .null, .null, .null, .int 0, .int 0, .int 0, .null, .null, .null, .null]
  | _ => []
def jnew (ci t : Nat) (dfl : List Value) (L : List (Nat × Value)) (st : List Value) (h : List jE) : jO := bif Nat.blt h.length jK0 then jgo t L (.ref h.length :: st) (h ++ [.inl (ci, dfl)]) else none
def jnewa (t : Nat) (L : List (Nat × Value)) (st : List Value) (h : List jE) : jO := match st with
  | .int n :: r => if ¬ n < 0 ∧ n.toNatClampNeg ≤ 100000 ∧ h.length < jK0 then jgo t L (.ref h.length :: r) (h ++ [.inr (.inl (0, List.replicate n.toNatClampNeg 0))]) else none
  | _ => none
def jnewq (k t : Nat) (L : List (Nat × Value)) (st : List Value) (h : List jE) : jO := match st with
  | .int n :: r => if ¬ n < 0 ∧ n.toNatClampNeg ≤ 100000 ∧ h.length < jK0 then jgo t L (.ref h.length :: r) (h ++ [.inr (.inr (k, List.replicate n.toNatClampNeg none))]) else none
  | _ => none
def jnewg (k t : Nat) (L : List (Nat × Value)) (st : List Value) (h : List jE) : jO := match st with
  | .int y :: .int n :: r => if ¬ n < 0 ∧ ¬ y < 0 ∧ n.toNatClampNeg ≤ 1000 ∧ y.toNatClampNeg ≤ 1000 ∧ h.length + 1 + n.toNatClampNeg < jK0 then jgo t L (.ref h.length :: r) (h ++ (.inr (.inr (k, (List.range n.toNatClampNeg).map (fun i => some (h.length + 1 + i)))) :: List.replicate n.toNatClampNeg (.inr (.inl (0, List.replicate y.toNatClampNeg 0))))) else none
  | _ => none
/-- a call of method a with n values (the receiver counted) -/
def jinv (call : Nat → List Value → List jE → Option jR) (a n t : Nat) (L : List (Nat × Value)) (st : List Value) (h : List jE) : jO := if n ≤ st.length ∧ ((st.drop n).map fun v => v.category).sum ≤ 8 then (match call a (st.take n).reverse h with
  | some (some v, h') => jgo t L (v :: st.drop n) h'
  | some (none, h') => jgo t L (st.drop n) h'
  | none => none) else none
/-- ... on a receiver of class ci -/
def jinvV (call : Nat → List Value → List jE → Option jR) (a n ci t : Nat) (L : List (Nat × Value)) (st : List Value) (h : List jE) : jO := match (st.take n).reverse with
  | .ref i :: _ => match h[i]? with
    | some (.inl o) => bif o.1 == ci then jinv call a n t L st h else none
    | _ => none
  | _ => none
/-- ... on a String constant -/
def jinvK (call : Nat → List Value → List jE → Option jR) (a n t : Nat) (L : List (Nat × Value)) (st : List Value) (h : List jE) : jO := match (st.take n).reverse with
  | .ref i :: _ => bif jstq i then jinv call a n t L st h else none
  | _ => none
/-- ... of a constructor -/
def jinvI (call : Nat → List Value → List jE → Option jR) (a n t : Nat) (L : List (Nat × Value)) (st : List Value) (h : List jE) : jO := match (st.take n).reverse with
  | .ref _ :: _ => jinv call a n t L st h
  | _ => none
/-- System.arraycopy of int arrays -/
def jcopy (t : Nat) (L : List (Nat × Value)) (st : List Value) (h : List jE) : jO := match st with
  | .int n :: .int dp :: .ref d :: .int sp :: .ref q :: r => match h[q]?, h[d]? with
    | some (.inr (.inl f)), some (.inr (.inl g)) => if f.1 = 0 ∧ g.1 = 0 ∧ ¬ sp < 0 ∧ ¬ dp < 0 ∧ ¬ n < 0 ∧ sp.toNatClampNeg + n.toNatClampNeg ≤ f.2.length ∧ dp.toNatClampNeg + n.toNatClampNeg ≤ g.2.length ∧ (r.map fun v => v.category).sum ≤ 8 then jgo t L r (h.set d (.inr (.inl (0, jcpy f.2 g.2 sp.toNatClampNeg dp.toNatClampNeg n.toNatClampNeg)))) else none
    | _, _ => none
  | _ => none
def jtsw (dflt lo hi : Int) (offs : List Int) (pc : Nat) (L : List (Nat × Value)) (st : List Value) (h : List jE) : jO := match st with
  | .int x :: r => if x.toInt < lo ∨ hi < x.toInt then (if 0 ≤ (pc : Int) + dflt then jgo ((pc : Int) + dflt).toNat L r h else none) else (match offs[(x.toInt - lo).toNat]? with
    | some o => if 0 ≤ (pc : Int) + o then jgo ((pc : Int) + o).toNat L r h else none
    | none => none)
  | _ => none
def jlsw (dflt : Int) (ps : List (Int × Int)) (pc : Nat) (L : List (Nat × Value)) (st : List Value) (h : List jE) : jO := match st with
  | .int x :: r => if (ps.zip (ps.drop 1)).all (fun (a, next) => a.1 < next.1) = true ∧ 0 ≤ (pc : Int) + Op.lookupswitch.offset ps dflt x.toInt then jgo ((pc : Int) + Op.lookupswitch.offset ps dflt x.toInt).toNat L r h else none
  | _ => none
def jret (ret : Option FieldType) (L : List (Nat × Value)) (st : List Value) (h : List jE) : jO := match st with
  | [.int v] => match ret with
    | some .int => some (.inr (some (.int v), h))
    | some .boolean => if v = 0 ∨ v = 1 then some (.inr (some (.int v), h)) else none
    | some .byte => if v = 0 then some (.inr (some (.int v), h)) else none
    | some .char => if jchar v = true then some (.inr (some (.int v), h)) else none
    | _ => none
  | _ => none
def jretA (ret : Option FieldType) (L : List (Nat × Value)) (st : List Value) (h : List jE) : jO := match st with
  | [.ref v] => match ret with
    | some (.object _) => some (.inr (some (.ref v), h))
    | _ => none
  | _ => none
def jretL (ret : Option FieldType) (L : List (Nat × Value)) (st : List Value) (h : List jE) : jO := match st with
  | [.long v] => match ret with
    | some .long => some (.inr (some (.long v), h))
    | _ => none
  | _ => none
def jretV (ret : Option FieldType) (L : List (Nat × Value)) (st : List Value) (h : List jE) : jO := match st with
  | [] => match ret with
    | none => some (.inr (none, h))
    | _ => none
  | _ => none
def jif (c : ClassFile.Cond) (a t : Nat) (L : List (Nat × Value)) (st : List Value) (h : List jE) : jO := match st with
  | .int x :: r => bif jcond c x 0 then jgo a L r h else jgo t L r h
  | _ => none
def jicmp (c : ClassFile.Cond) (a t : Nat) (L : List (Nat × Value)) (st : List Value) (h : List jE) : jO := match st with
  | .int y :: .int x :: r => bif jcond c x y then jgo a L r h else jgo t L r h
  | _ => none
def jexec (cs : Nat → Option (List Int32)) (call : Nat → List Value → List jE → Option jR) (nL : Nat) (ret : Option FieldType) (x : jI) (pc : Nat) (L : List (Nat × Value)) (st : List Value) (h : List jE) : jO := match x with
  | (ins, len, a, b, c, k) => match ins with
    | .iconst n => jgo (pc + 1) L (.int (Int32.ofInt n) :: st) h
    | .bipush n => jgo (pc + 2) L (.int (Int8.ofInt n).toInt32 :: st) h
    | .sipush n => jgo (pc + 3) L (.int (Int16.ofInt n).toInt32 :: st) h
    | .lconst n => jgo (pc + 1) L (.long (Int64.ofNat (n : Nat)) :: st) h
    | .ldc _ => bif a == 0 then jgo (pc + 2) L (.int k.toInt32 :: st) h else jgo (pc + 2) L (.ref (jK0 + b) :: st) h
    | .ldc_w _ => jgo (pc + 3) L (.int k.toInt32 :: st) h
    | .ldc2_w _ => jgo (pc + 3) L (.long k :: st) h
    | .iload_n i => jloadI L i (pc + 1) st h
    | .iload i => jloadI L i (pc + 2) st h
    | .lload_n i => jloadL L i (pc + 1) st h
    | .lload i => jloadL L i (pc + 2) st h
    | .aload_n i => jloadA L i (pc + 1) st h
    | .aload i => jloadA L i (pc + 2) st h
    | .istore_n i => jstoreI nL L i (pc + 1) st h
    | .istore i => jstoreI nL L i (pc + 2) st h
    | .astore_n i => jstoreA nL L i (pc + 1) st h
    | .astore i => jstoreA nL L i (pc + 2) st h
    | .lstore_n i => jstoreL nL L i (pc + 1) st h
    | .lstore i => jstoreL nL L i (pc + 2) st h
    | .iinc i n => match jget L i with
      | some (.int x) => bif Nat.blt i nL then jgo (pc + 3) (jput L i (.int (x + Int32.ofInt n))) st h else none
      | _ => none
    | .iadd => jop2 (fun x y => x + y) (pc + 1) L st h
    | .isub => jop2 (fun x y => x - y) (pc + 1) L st h
    | .imul => jop2 (fun x y => x * y) (pc + 1) L st h
    | .iand => jop2 (fun x y => x &&& y) (pc + 1) L st h
    | .ior => jop2 (fun x y => x ||| y) (pc + 1) L st h
    | .ixor => jop2 (fun x y => x ^^^ y) (pc + 1) L st h
    | .iaload => jiald cs (pc + 1) L st h
    | .iastore => jiast (pc + 1) L st h
    | .aaload => jaald (pc + 1) L st h
    | .aastore => jaast (pc + 1) L st h
    | .arraylength => jalen cs (pc + 1) L st h
    | .ineg => jop1 (fun x => -x) (pc + 1) L st h
    | .i2b => jop1 (fun x => x.toInt8.toInt32) (pc + 1) L st h
    | .i2s => jop1 (fun x => x.toInt16.toInt32) (pc + 1) L st h
    | .i2c => jop1 (fun x => (x.toUInt32 % 65536).toInt32) (pc + 1) L st h
    | .ishl => jop2 (fun x y => x <<< (y &&& 31)) (pc + 1) L st h
    | .ishr => jop2 (fun x y => x >>> (y &&& 31)) (pc + 1) L st h
    | .iushr => jop2 (fun x y => (x.toUInt32 >>> (y.toUInt32 &&& Int32.toUInt32 31)).toInt32) (pc + 1) L st h
    | .ladd => jop2L (fun x y => x + y) (pc + 1) L st h
    | .lmul => jop2L (fun x y => x * y) (pc + 1) L st h
    | .land => jop2L (fun x y => x &&& y) (pc + 1) L st h
    | .lor => jop2L (fun x y => x ||| y) (pc + 1) L st h
    | .lshl => jshL (fun x y => x <<< (y.toInt64 &&& 63)) (pc + 1) L st h
    | .lshr => jshL (fun x y => x >>> (y.toInt64 &&& 63)) (pc + 1) L st h
    | .lushr => jshL (fun x y => (x.toUInt64 >>> (y.toInt64.toUInt64 &&& Int64.toUInt64 63)).toInt64) (pc + 1) L st h
    | .i2l => match st with
      | .int x :: r => jgo (pc + 1) L (.long x.toInt64 :: r) h
      | _ => none
    | .l2i => match st with
      | .long x :: r => jgo (pc + 1) L (.int x.toInt32 :: r) h
      | _ => none
    | .idiv => match st with
      | .int y :: .int x :: r => if y = 0 then none else jgo (pc + 1) L (.int (x / y) :: r) h
      | _ => none
    | .irem => match st with
      | .int y :: .int x :: r => if y = 0 then none else jgo (pc + 1) L (.int (x - x / y * y) :: r) h
      | _ => none
    | .ldiv => match st with
      | .long y :: .long x :: r => if y = 0 then none else jgo (pc + 1) L (.long (x / y) :: r) h
      | _ => none
    | .lcmp => match st with
      | .long y :: .long x :: r => jgo (pc + 1) L (.int (lg_cmp x y) :: r) h
      | _ => none
    | .dup => match st with
      | .int x :: r => jgo (pc + 1) L (.int x :: .int x :: r) h
      | .ref x :: r => jgo (pc + 1) L (.ref x :: .ref x :: r) h
      | _ => none
    | .pop => match st with
      | .int _ :: r => jgo (pc + 1) L r h
      | .ref _ :: r => jgo (pc + 1) L r h
      | _ => none
    | .dup2 => match st with
      | .int y :: .ref x :: r => jgo (pc + 1) L (.int y :: .ref x :: .int y :: .ref x :: r) h
      | .int y :: .int x :: r => jgo (pc + 1) L (.int y :: .int x :: .int y :: .int x :: r) h
      | _ => none
    | .goto _ => jgo a L st h
    | .ifCond q _ => jif q a (pc + 3) L st h
    | .if_icmp q _ => jicmp q a (pc + 3) L st h
    | .tableswitch d lo hi offs => jtsw d lo hi offs.toList pc L st h
    | .lookupswitch d ps => jlsw d ps.toList pc L st h
    | .getfield _ => bif c == 9 then jgetk b (pc + 3) L st h else jgetf a b (pc + 3) L st h
    | .putfield _ => jputf a b c (pc + 3) L st h
    | .getstatic _ => bif b == 9 then jgo (pc + 3) L (.int 1 :: st) h else jgo (pc + 3) L (.ref (jK0 + a) :: st) h
    | .new _ => jnew a (pc + 3) (jdf a) L st h
    | .newarray _ => jnewa (pc + 2) L st h
    | .anewarray _ => jnewq a (pc + 3) L st h
    | .multianewarray _ _ => jnewg 1 (pc + 4) L st h
    | .invokevirtual _ => bif k == 9 then jinvK call a b (pc + 3) L st h else jinvV call a b c (pc + 3) L st h
    | .invokespecial _ => bif c == 1 then (match st with
      | .ref _ :: r => if (r.map fun v => v.category).sum ≤ 8 then jgo (pc + 3) L r h else none
      | _ => none) else jinvI call a b (pc + 3) L st h
    | .invokestatic _ => bif c == 1 then jcopy (pc + 3) L st h else jinv call a b (pc + 3) L st h
    | .ireturn => jret ret L st h
    | .areturn => jretA ret L st h
    | .return_ => jretV ret L st h
    | .lreturn => jretL ret L st h
    | .baload => jbald (pc + 1) L st h
    | _ => none
def jstep (cs : Nat → Option (List Int32)) (call : Nat → List Value → List jE → Option jR) (nL : Nat) (ret : Option FieldType) (tab : Nat → Option jI) (c : jC) : jO := match tab c.1 with
  | none => none
  | some x => jexec cs call nL ret x c.1 c.2.1 c.2.2.1 c.2.2.2
def jrun (cs : Nat → Option (List Int32)) (call : Nat → List Value → List jE → Option jR) (nL : Nat) (ret : Option FieldType) (tab : Nat → Option jI) : Nat → jC → Option jR
  | 0, _ => none
  | f + 1, c => match jstep cs call nL ret tab c with
    | none => none
    | some (.inl c') => jrun cs call nL ret tab f c'
    | some (.inr r) => some r
/-- a method: its table, its name, code, locals, answer, how many values it takes, its class -/
abbrev jM : Type := (Nat → Option jI) × MethodName × ByteArray × Nat × Option FieldType × Nat × String
def jcall (mt : Nat → Option jM) (cs : Nat → Option (List Int32)) (F : Nat) : Nat → Nat → List Value → List jE → Option jR
  | 0, _, _, _ => none
  | d + 1, a, vs, h => match mt a with
    | none => none
    | some q => if vs.length = q.2.2.2.2.2.1 ∧ (lg_sl vs).length ≤ q.2.2.2.1 then (bif a == 264 then jnat d vs h else jrun cs (jcall mt cs F d) q.2.2.2.1 q.2.2.2.2.1 q.1 F (0, lv_args 0 vs, [], h)) else none
