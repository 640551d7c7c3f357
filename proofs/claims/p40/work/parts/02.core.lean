section
/-! THE INTERPRETER: a small machine over lists of cells. A cell: an object (number of its class in vwCl, its fields), an int array (kind 0, numbers), an array of references (kind, places). A reference is a cell's number, or 1000000 + the number of a constant. -/
abbrev jE : Type := (Nat × List Value) ⊕ ((Nat × List Int32) ⊕ (Nat × List (Option Nat)))
/-- instruction, length, three numbers, a long -/
abbrev jI : Type := Instr × Nat × Nat × Nat × Nat × Int64
abbrev jC : Type := Nat × List (Nat × Value) × List Value × List jE
abbrev jR : Type := Option Value × List jE
abbrev jO : Type := Option (jC ⊕ jR)
def jK0 : Nat := 1000000
def jsz : jE → Nat
  | .inl o => o.2.length
  | .inr (.inl a) => a.2.length
  | .inr (.inr a) => a.2.length
def jsl (h : List jE) : Nat := (h.map jsz).sum
def jget : List (Nat × Value) → Nat → Option Value
  | [], _ => none
  | q :: r, i => bif q.1 == i then some q.2 else jget r i
def jput (L : List (Nat × Value)) (i : Nat) (v : Value) : List (Nat × Value) := (i, v) :: L.filter (fun q => !(q.1 == i) && !(q.1 + 1 == i && q.2.category == 2))
def jput2 (L : List (Nat × Value)) (i : Nat) (v : Value) : List (Nat × Value) := (i, v) :: L.filter (fun q => !(q.1 == i) && (!(q.1 == i + 1) && !(q.1 + 1 == i && q.2.category == 2)))
/-- an int array's number -/
def jat (l : List Int32) (j : Int32) : Option Int32 := if j < 0 then none else l[j.toNatClampNeg]?
def jcpy (f g : List Int32) (sp dp n : Nat) : List Int32 := (List.range g.length).map (fun k => if dp ≤ k ∧ k < dp + n then f.getD (sp + (k - dp)) 0 else g.getD k 0)
def jgo (t : Nat) (L : List (Nat × Value)) (st : List Value) (h : List jE) : jO := some (.inl (t, L, st, h))
def jcond (c : ClassFile.Cond) (x y : Int32) : Bool := match c with
  | .eq => decide (x = y)
  | .ne => decide (¬ x = y)
  | .lt => decide (x < y)
  | .ge => decide (y ≤ x)
  | .gt => decide (y < x)
  | .le => decide (x ≤ y)
/-- loads and stores of locals -/
def jloadI (L : List (Nat × Value)) (i t : Nat) (st : List Value) (h : List jE) : jO := match jget L i with
  | some (.int x) => jgo t L (.int x :: st) h
  | _ => none
def jloadL (L : List (Nat × Value)) (i t : Nat) (st : List Value) (h : List jE) : jO := match jget L i with
  | some (.long x) => jgo t L (.long x :: st) h
  | _ => none
def jloadA (L : List (Nat × Value)) (i t : Nat) (st : List Value) (h : List jE) : jO := match jget L i with
  | some (.ref x) => jgo t L (.ref x :: st) h
  | _ => none
def jstoreI (nL : Nat) (L : List (Nat × Value)) (i t : Nat) (st : List Value) (h : List jE) : jO := match st with
  | .int x :: r => bif Nat.blt i nL then jgo t (jput L i (.int x)) r h else none
  | _ => none
def jstoreA (nL : Nat) (L : List (Nat × Value)) (i t : Nat) (st : List Value) (h : List jE) : jO := match st with
  | .ref x :: r => bif Nat.blt i nL then jgo t (jput L i (.ref x)) r h else none
  | _ => none
def jstoreL (nL : Nat) (L : List (Nat × Value)) (i t : Nat) (st : List Value) (h : List jE) : jO := match st with
  | .long x :: r => bif Nat.blt (i + 1) nL then jgo t (jput2 L i (.long x)) r h else none
  | _ => none
/-- two ints, one int -/
def jop2 (f : Int32 → Int32 → Int32) (t : Nat) (L : List (Nat × Value)) (st : List Value) (h : List jE) : jO := match st with
  | .int y :: .int x :: r => jgo t L (.int (f x y) :: r) h
  | _ => none
def jop2L (f : Int64 → Int64 → Int64) (t : Nat) (L : List (Nat × Value)) (st : List Value) (h : List jE) : jO := match st with
  | .long y :: .long x :: r => jgo t L (.long (f x y) :: r) h
  | _ => none
def jop1 (f : Int32 → Int32) (t : Nat) (L : List (Nat × Value)) (st : List Value) (h : List jE) : jO := match st with
  | .int x :: r => jgo t L (.int (f x) :: r) h
  | _ => none
def jshL (f : Int64 → Int32 → Int64) (t : Nat) (L : List (Nat × Value)) (st : List Value) (h : List jE) : jO := match st with
  | .int y :: .long x :: r => jgo t L (.long (f x y) :: r) h
  | _ => none
/-- the numbers of an int array: a cell's, or a constant's -/
def jints (cs : Nat → Option (List Int32)) (h : List jE) (i : Nat) : Option (List Int32) := bif Nat.blt i jK0 then (match h[i]? with
  | some (.inr (.inl a)) => bif a.1 == 0 then some a.2 else none
  | _ => none) else cs (i - jK0)
def jiald (cs : Nat → Option (List Int32)) (t : Nat) (L : List (Nat × Value)) (st : List Value) (h : List jE) : jO := match st with
  | .int j :: .ref i :: r => match jints cs h i with
    | some l => match jat l j with
      | some x => jgo t L (.int x :: r) h
      | none => none
    | none => none
  | _ => none
def jiast (t : Nat) (L : List (Nat × Value)) (st : List Value) (h : List jE) : jO := match st with
  | .int x :: .int j :: .ref i :: r => match h[i]? with
    | some (.inr (.inl a)) => if a.1 = 0 ∧ ¬ j < 0 ∧ j.toNatClampNeg < a.2.length then jgo t L r (h.set i (.inr (.inl (0, a.2.set j.toNatClampNeg x)))) else none
    | _ => none
  | _ => none
def jaald (t : Nat) (L : List (Nat × Value)) (st : List Value) (h : List jE) : jO := match st with
  | .int j :: .ref i :: r => match h[i]? with
    | some (.inr (.inr a)) => if j < 0 ∨ ¬ (a.1 = 1 ∨ a.1 = 2 ∨ a.1 = 3) then none else match a.2[j.toNatClampNeg]? with
      | some (some q) => jgo t L (.ref q :: r) h
      | _ => none
    | _ => none
  | _ => none
/-- which arrays of references hold what: kind 2 objects of class 4 (Text), kind 3 Strings (constants) -/
def jmay (h : List jE) (k q : Nat) : Bool := bif k == 3 then Nat.ble (jK0 + 10) q && Nat.blt q (jK0 + 17) else bif k == 2 then (match h[q]? with
  | some (.inl o) => o.1 == 4
  | _ => false) else false
def jaast (t : Nat) (L : List (Nat × Value)) (st : List Value) (h : List jE) : jO := match st with
  | .ref q :: .int j :: .ref i :: r => match h[i]? with
    | some (.inr (.inr a)) => if jmay h a.1 q = true ∧ ¬ j < 0 ∧ j.toNatClampNeg < a.2.length then jgo t L r (h.set i (.inr (.inr (a.1, a.2.set j.toNatClampNeg (some q))))) else none
    | _ => none
  | _ => none
/-- the bytes of the String constants -/
def jbs (k : Nat) : Option (List Int32) := match k with
  | 30 => some []
  | 31 => some [115, 116, 103, 104, 110]
  | 32 => some [119, 118, 115, 116, 110]
  | 33 => some [115, 103, 119, 114, 107]
  | 34 => some [115, 116, 103, 104, 110]
  | 35 => some [119, 118, 115, 116, 110]
  | 36 => some [115, 103, 119, 114, 107]
  | _ => none
def jbq (i : Nat) : Option (List Int32) := bif Nat.beq i (jK0 + 30) then jbs 30 else bif Nat.beq i (jK0 + 31) then jbs 31 else bif Nat.beq i (jK0 + 32) then jbs 32 else bif Nat.beq i (jK0 + 33) then jbs 33 else bif Nat.beq i (jK0 + 34) then jbs 34 else bif Nat.beq i (jK0 + 35) then jbs 35 else bif Nat.beq i (jK0 + 36) then jbs 36 else none
/-- a String constant -/
def jstq (i : Nat) : Bool := Nat.ble (jK0 + 10) i && Nat.blt i (jK0 + 17)
def jbald (t : Nat) (L : List (Nat × Value)) (st : List Value) (h : List jE) : jO := match st with
  | .int j :: .ref i :: r => match jbq i with
    | some l => match jat l j with
      | some x => jgo t L (.int x :: r) h
      | none => none
    | none => none
  | _ => none
def jgetk (b t : Nat) (L : List (Nat × Value)) (st : List Value) (h : List jE) : jO := match st with
  | .ref i :: r => bif jstq i then (bif b == 0 then jgo t L (.ref (i + 20) :: r) h else jgo t L (.int 0 :: r) h) else none
  | _ => none
def jchar (v : Int32) : Bool := decide (0 ≤ v.toInt) && decide (v.toInt ≤ 127)
/-- String.checkIndex -/
def jnat (d : Nat) (vs : List Value) (h : List jE) : Option jR := match d, vs with
  | _ + 1, [.int j, .int n] => if 0 ≤ j ∧ j < n then some (none, h) else none
  | _, _ => none
def jalen (cs : Nat → Option (List Int32)) (t : Nat) (L : List (Nat × Value)) (st : List Value) (h : List jE) : jO := match st with
  | .ref i :: r => match jints cs h i with
    | some l => jgo t L (.int (Int32.ofNat l.length) :: r) h
    | none => match jbq i with
      | some l => jgo t L (.int (Int32.ofNat l.length) :: r) h
      | none => none
  | _ => none
def jgetf (ci k t : Nat) (L : List (Nat × Value)) (st : List Value) (h : List jE) : jO := match st with
  | .ref i :: r => match h[i]? with
    | some (.inl o) => bif o.1 == ci then (match o.2[k]? with
      | some v => jgo t L (v :: r) h
      | none => none) else none
    | _ => none
  | _ => none
/-- the field's type: 0 int, 1 boolean, 2 a reference -/
def jfit (ty : Nat) (v : Value) : Bool := match v with
  | .int x => ty == 0 || (ty == 1 && decide (x = 0 ∨ x = 1))
  | .ref _ => ty == 2
  | _ => false
def jputf (ci k ty t : Nat) (L : List (Nat × Value)) (st : List Value) (h : List jE) : jO := match st with
  | v :: .ref i :: r => match h[i]? with
    | some (.inl o) => bif o.1 == ci && (Nat.blt k o.2.length && jfit ty v) then jgo t L r (h.set i (.inl (ci, o.2.set k v))) else none
    | _ => none
  | _ => none
/-- the fields of a new object -/
def jdf (ci : Nat) : List Value := match ci with
  | 0 => [.int 0, .null, .null, .null, .null, .null, .int 0, .int 0, .int 0, .null, .null]
  | 1 => [.int 0, .int 0, .null, .null, .int 0, .null, .int 0]
  | 2 => [.null, .null, .null, .int 0]
  | 3 => [.null, .null, .null]
  | 4 => [.int 0, .null, .null]
  | 5 => [.int 0, .int 0, .null, .null, .int 0, .int 0, .int 0, .int 0]
  | 6 => [.null, .null, .null, .int 0, .null, .int 0, .int 0, .int 0, .int 0, .int 0, .int 0, .int 0, .null, .null]
  | 7 => [.null, .null, .null, .null, .null, .null, .null, .null, .int 0]
  | 8 => [.null, .null, .null, .int 0, .null, .null, .null, .int 0, .int 0, .int 0, .int 0, .null, .int 0, .null, .null, .null, .null, .null, .null, .int 0, .int 0, .int 0, .null, .null, .null, .null]
  | _ => []
def jnew (ci t : Nat) (dfl : List Value) (L : List (Nat × Value)) (st : List Value) (h : List jE) : jO := bif Nat.blt h.length jK0 then jgo t L (.ref h.length :: st) (h ++ [.inl (ci, dfl)]) else none
def jnewa (t : Nat) (L : List (Nat × Value)) (st : List Value) (h : List jE) : jO := match st with
  | .int n :: r => if ¬ n < 0 ∧ n.toNatClampNeg ≤ 100000 ∧ h.length < jK0 then jgo t L (.ref h.length :: r) (h ++ [.inr (.inl (0, List.replicate n.toNatClampNeg 0))]) else none
  | _ => none
def jnewq (k t : Nat) (L : List (Nat × Value)) (st : List Value) (h : List jE) : jO := match st with
  | .int n :: r => if ¬ n < 0 ∧ n.toNatClampNeg ≤ 100000 ∧ h.length < jK0 then jgo t L (.ref h.length :: r) (h ++ [.inr (.inr (k, List.replicate n.toNatClampNeg none))]) else none
  | _ => none
def jnewg (k t : Nat) (L : List (Nat × Value)) (st : List Value) (h : List jE) : jO := match st with
  | .int y :: .int n :: r => if ¬ n < 0 ∧ ¬ y < 0 ∧ n.toNatClampNeg ≤ 1000 ∧ y.toNatClampNeg ≤ 1000 ∧ h.length + 1 + n.toNatClampNeg < jK0 then jgo t L (.ref h.length :: r) (h ++ (.inr (.inr (k, (List.range n.toNatClampNeg).map (fun i => some (h.length + 1 + i)))) :: List.replicate n.toNatClampNeg (.inr (.inl (0, List.replicate y.toNatClampNeg 0))))) else none
  | _ => none
/-- a call of method a with n values (the receiver counted) -/
def jinv (call : Nat → List Value → List jE → Option jR) (a n t : Nat) (L : List (Nat × Value)) (st : List Value) (h : List jE) : jO := if n ≤ st.length ∧ ((st.drop n).map fun v => v.category).sum ≤ 8 then (match call a (st.take n).reverse h with
  | some (some v, h') => jgo t L (v :: st.drop n) h'
  | some (none, h') => jgo t L (st.drop n) h'
  | none => none) else none
/-- ... on a receiver of class ci -/
def jinvV (call : Nat → List Value → List jE → Option jR) (a n ci t : Nat) (L : List (Nat × Value)) (st : List Value) (h : List jE) : jO := match (st.take n).reverse with
  | .ref i :: _ => match h[i]? with
    | some (.inl o) => bif o.1 == ci then jinv call a n t L st h else none
    | _ => none
  | _ => none
/-- ... on a String constant -/
def jinvK (call : Nat → List Value → List jE → Option jR) (a n t : Nat) (L : List (Nat × Value)) (st : List Value) (h : List jE) : jO := match (st.take n).reverse with
  | .ref i :: _ => bif jstq i then jinv call a n t L st h else none
  | _ => none
/-- ... of a constructor -/
def jinvI (call : Nat → List Value → List jE → Option jR) (a n t : Nat) (L : List (Nat × Value)) (st : List Value) (h : List jE) : jO := match (st.take n).reverse with
  | .ref _ :: _ => jinv call a n t L st h
  | _ => none
/-- System.arraycopy of int arrays -/
def jcopy (t : Nat) (L : List (Nat × Value)) (st : List Value) (h : List jE) : jO := match st with
  | .int n :: .int dp :: .ref d :: .int sp :: .ref q :: r => match h[q]?, h[d]? with
    | some (.inr (.inl f)), some (.inr (.inl g)) => if f.1 = 0 ∧ g.1 = 0 ∧ ¬ sp < 0 ∧ ¬ dp < 0 ∧ ¬ n < 0 ∧ sp.toNatClampNeg + n.toNatClampNeg ≤ f.2.length ∧ dp.toNatClampNeg + n.toNatClampNeg ≤ g.2.length ∧ (r.map fun v => v.category).sum ≤ 8 then jgo t L r (h.set d (.inr (.inl (0, jcpy f.2 g.2 sp.toNatClampNeg dp.toNatClampNeg n.toNatClampNeg)))) else none
    | _, _ => none
  | _ => none
def jtsw (dflt lo hi : Int) (offs : List Int) (pc : Nat) (L : List (Nat × Value)) (st : List Value) (h : List jE) : jO := match st with
  | .int x :: r => if x.toInt < lo ∨ hi < x.toInt then (if 0 ≤ (pc : Int) + dflt then jgo ((pc : Int) + dflt).toNat L r h else none) else (match offs[(x.toInt - lo).toNat]? with
    | some o => if 0 ≤ (pc : Int) + o then jgo ((pc : Int) + o).toNat L r h else none
    | none => none)
  | _ => none
def jlsw (dflt : Int) (ps : List (Int × Int)) (pc : Nat) (L : List (Nat × Value)) (st : List Value) (h : List jE) : jO := match st with
  | .int x :: r => if (ps.zip (ps.drop 1)).all (fun (a, next) => a.1 < next.1) = true ∧ 0 ≤ (pc : Int) + Op.lookupswitch.offset ps dflt x.toInt then jgo ((pc : Int) + Op.lookupswitch.offset ps dflt x.toInt).toNat L r h else none
  | _ => none
def jret (ret : Option FieldType) (L : List (Nat × Value)) (st : List Value) (h : List jE) : jO := match st with
  | [.int v] => match ret with
    | some .int => some (.inr (some (.int v), h))
    | some .boolean => if v = 0 ∨ v = 1 then some (.inr (some (.int v), h)) else none
    | some .byte => if v = 0 then some (.inr (some (.int v), h)) else none
    | some .char => if jchar v = true then some (.inr (some (.int v), h)) else none
    | _ => none
  | _ => none
def jretA (ret : Option FieldType) (L : List (Nat × Value)) (st : List Value) (h : List jE) : jO := match st with
  | [.ref v] => match ret with
    | some (.object _) => some (.inr (some (.ref v), h))
    | _ => none
  | _ => none
def jretL (ret : Option FieldType) (L : List (Nat × Value)) (st : List Value) (h : List jE) : jO := match st with
  | [.long v] => match ret with
    | some .long => some (.inr (some (.long v), h))
    | _ => none
  | _ => none
def jretV (ret : Option FieldType) (L : List (Nat × Value)) (st : List Value) (h : List jE) : jO := match st with
  | [] => match ret with
    | none => some (.inr (none, h))
    | _ => none
  | _ => none
def jif (c : ClassFile.Cond) (a t : Nat) (L : List (Nat × Value)) (st : List Value) (h : List jE) : jO := match st with
  | .int x :: r => bif jcond c x 0 then jgo a L r h else jgo t L r h
  | _ => none
def jicmp (c : ClassFile.Cond) (a t : Nat) (L : List (Nat × Value)) (st : List Value) (h : List jE) : jO := match st with
  | .int y :: .int x :: r => bif jcond c x y then jgo a L r h else jgo t L r h
  | _ => none
def jexec (cs : Nat → Option (List Int32)) (call : Nat → List Value → List jE → Option jR) (nL : Nat) (ret : Option FieldType) (x : jI) (pc : Nat) (L : List (Nat × Value)) (st : List Value) (h : List jE) : jO := match x with
  | (ins, len, a, b, c, k) => match ins with
    | .iconst n => jgo (pc + 1) L (.int (Int32.ofInt n) :: st) h
    | .bipush n => jgo (pc + 2) L (.int (Int8.ofInt n).toInt32 :: st) h
    | .sipush n => jgo (pc + 3) L (.int (Int16.ofInt n).toInt32 :: st) h
    | .lconst n => jgo (pc + 1) L (.long (Int64.ofNat (n : Nat)) :: st) h
    | .ldc _ => bif a == 0 then jgo (pc + 2) L (.int k.toInt32 :: st) h else jgo (pc + 2) L (.ref (jK0 + b) :: st) h
    | .ldc_w _ => jgo (pc + 3) L (.int k.toInt32 :: st) h
    | .ldc2_w _ => jgo (pc + 3) L (.long k :: st) h
    | .iload_n i => jloadI L i (pc + 1) st h
    | .iload i => jloadI L i (pc + 2) st h
    | .lload_n i => jloadL L i (pc + 1) st h
    | .lload i => jloadL L i (pc + 2) st h
    | .aload_n i => jloadA L i (pc + 1) st h
    | .aload i => jloadA L i (pc + 2) st h
    | .istore_n i => jstoreI nL L i (pc + 1) st h
    | .istore i => jstoreI nL L i (pc + 2) st h
    | .astore_n i => jstoreA nL L i (pc + 1) st h
    | .astore i => jstoreA nL L i (pc + 2) st h
    | .lstore_n i => jstoreL nL L i (pc + 1) st h
    | .lstore i => jstoreL nL L i (pc + 2) st h
    | .iinc i n => match jget L i with
      | some (.int x) => bif Nat.blt i nL then jgo (pc + 3) (jput L i (.int (x + Int32.ofInt n))) st h else none
      | _ => none
    | .iadd => jop2 (fun x y => x + y) (pc + 1) L st h
    | .isub => jop2 (fun x y => x - y) (pc + 1) L st h
    | .imul => jop2 (fun x y => x * y) (pc + 1) L st h
    | .iand => jop2 (fun x y => x &&& y) (pc + 1) L st h
    | .ior => jop2 (fun x y => x ||| y) (pc + 1) L st h
    | .ixor => jop2 (fun x y => x ^^^ y) (pc + 1) L st h
    | .iaload => jiald cs (pc + 1) L st h
    | .iastore => jiast (pc + 1) L st h
    | .aaload => jaald (pc + 1) L st h
    | .aastore => jaast (pc + 1) L st h
    | .arraylength => jalen cs (pc + 1) L st h
    | .ineg => jop1 (fun x => -x) (pc + 1) L st h
    | .i2b => jop1 (fun x => x.toInt8.toInt32) (pc + 1) L st h
    | .i2s => jop1 (fun x => x.toInt16.toInt32) (pc + 1) L st h
    | .i2c => jop1 (fun x => (x.toUInt32 % 65536).toInt32) (pc + 1) L st h
    | .ishl => jop2 (fun x y => x <<< (y &&& 31)) (pc + 1) L st h
    | .ishr => jop2 (fun x y => x >>> (y &&& 31)) (pc + 1) L st h
    | .iushr => jop2 (fun x y => (x.toUInt32 >>> (y.toUInt32 &&& Int32.toUInt32 31)).toInt32) (pc + 1) L st h
    | .ladd => jop2L (fun x y => x + y) (pc + 1) L st h
    | .lmul => jop2L (fun x y => x * y) (pc + 1) L st h
    | .land => jop2L (fun x y => x &&& y) (pc + 1) L st h
    | .lor => jop2L (fun x y => x ||| y) (pc + 1) L st h
    | .lshl => jshL (fun x y => x <<< (y.toInt64 &&& 63)) (pc + 1) L st h
    | .lshr => jshL (fun x y => x >>> (y.toInt64 &&& 63)) (pc + 1) L st h
    | .lushr => jshL (fun x y => (x.toUInt64 >>> (y.toInt64.toUInt64 &&& Int64.toUInt64 63)).toInt64) (pc + 1) L st h
    | .i2l => match st with
      | .int x :: r => jgo (pc + 1) L (.long x.toInt64 :: r) h
      | _ => none
    | .l2i => match st with
      | .long x :: r => jgo (pc + 1) L (.int x.toInt32 :: r) h
      | _ => none
    | .idiv => match st with
      | .int y :: .int x :: r => if y = 0 then none else jgo (pc + 1) L (.int (x / y) :: r) h
      | _ => none
    | .irem => match st with
      | .int y :: .int x :: r => if y = 0 then none else jgo (pc + 1) L (.int (x - x / y * y) :: r) h
      | _ => none
    | .ldiv => match st with
      | .long y :: .long x :: r => if y = 0 then none else jgo (pc + 1) L (.long (x / y) :: r) h
      | _ => none
    | .lcmp => match st with
      | .long y :: .long x :: r => jgo (pc + 1) L (.int (lg_cmp x y) :: r) h
      | _ => none
    | .dup => match st with
      | .int x :: r => jgo (pc + 1) L (.int x :: .int x :: r) h
      | .ref x :: r => jgo (pc + 1) L (.ref x :: .ref x :: r) h
      | _ => none
    | .pop => match st with
      | .int _ :: r => jgo (pc + 1) L r h
      | .ref _ :: r => jgo (pc + 1) L r h
      | _ => none
    | .dup2 => match st with
      | .int y :: .ref x :: r => jgo (pc + 1) L (.int y :: .ref x :: .int y :: .ref x :: r) h
      | .int y :: .int x :: r => jgo (pc + 1) L (.int y :: .int x :: .int y :: .int x :: r) h
      | _ => none
    | .goto _ => jgo a L st h
    | .ifCond q _ => jif q a (pc + 3) L st h
    | .if_icmp q _ => jicmp q a (pc + 3) L st h
    | .tableswitch d lo hi offs => jtsw d lo hi offs.toList pc L st h
    | .lookupswitch d ps => jlsw d ps.toList pc L st h
    | .getfield _ => bif c == 9 then jgetk b (pc + 3) L st h else jgetf a b (pc + 3) L st h
    | .putfield _ => jputf a b c (pc + 3) L st h
    | .getstatic _ => bif b == 9 then jgo (pc + 3) L (.int 1 :: st) h else jgo (pc + 3) L (.ref (jK0 + a) :: st) h
    | .new _ => jnew a (pc + 3) (jdf a) L st h
    | .newarray _ => jnewa (pc + 2) L st h
    | .anewarray _ => jnewq a (pc + 3) L st h
    | .multianewarray _ _ => jnewg 1 (pc + 4) L st h
    | .invokevirtual _ => bif k == 9 then jinvK call a b (pc + 3) L st h else jinvV call a b c (pc + 3) L st h
    | .invokespecial _ => bif c == 1 then (match st with
      | .ref _ :: r => if (r.map fun v => v.category).sum ≤ 8 then jgo (pc + 3) L r h else none
      | _ => none) else jinvI call a b (pc + 3) L st h
    | .invokestatic _ => bif c == 1 then jcopy (pc + 3) L st h else jinv call a b (pc + 3) L st h
    | .ireturn => jret ret L st h
    | .areturn => jretA ret L st h
    | .return_ => jretV ret L st h
    | .lreturn => jretL ret L st h
    | .baload => jbald (pc + 1) L st h
    | _ => none
def jstep (cs : Nat → Option (List Int32)) (call : Nat → List Value → List jE → Option jR) (nL : Nat) (ret : Option FieldType) (tab : Nat → Option jI) (c : jC) : jO := match tab c.1 with
  | none => none
  | some x => jexec cs call nL ret x c.1 c.2.1 c.2.2.1 c.2.2.2
def jrun (cs : Nat → Option (List Int32)) (call : Nat → List Value → List jE → Option jR) (nL : Nat) (ret : Option FieldType) (tab : Nat → Option jI) : Nat → jC → Option jR
  | 0, _ => none
  | f + 1, c => match jstep cs call nL ret tab c with
    | none => none
    | some (.inl c') => jrun cs call nL ret tab f c'
    | some (.inr r) => some r
/-- a method: its table, its name, code, locals, answer, how many values it takes, its class -/
abbrev jM : Type := (Nat → Option jI) × MethodName × ByteArray × Nat × Option FieldType × Nat × String
def jcall (mt : Nat → Option jM) (cs : Nat → Option (List Int32)) (F : Nat) : Nat → Nat → List Value → List jE → Option jR
  | 0, _, _, _ => none
  | d + 1, a, vs, h => match mt a with
    | none => none
    | some q => if vs.length = q.2.2.2.2.2.1 ∧ (lg_sl vs).length ≤ q.2.2.2.1 then (bif a == 264 then jnat d vs h else jrun cs (jcall mt cs F d) q.2.2.2.1 q.2.2.2.2.1 q.1 F (0, lv_args 0 vs, [], h)) else none
end
section
/-! what a cell of the interpreter is in the machine's world -/
def jad (base : Nat) (ca : Nat → Nat) (i : Nat) : Nat := if i < jK0 then base + i else ca (i - jK0)
def jv (ad : Nat → Nat) : Value → Value
  | .ref i => .ref (ad i)
  | v => v
def jtr (cT : Nat → ClassId) (ad : Nat → Nat) : jE → va_E
  | .inl o => .inr (o.1, o.2.map (jv ad))
  | .inr (.inl a) => .inl (cT a.1, a.2.length, .inl (fun j => a.2.getD j 0))
  | .inr (.inr a) => .inl (cT a.1, a.2.length, .inr (.inr (.inr (.inr (fun j => (a.2.getD j none).map ad)))))
def jw (base : Nat) (cT : Nat → ClassId) (ad : Nat → Nat) (h : List jE) : va_W := h.mapIdx (fun i e => (base + i, jtr cT ad e))
theorem jv_cat (ad : Nat → Nat) (v : Value) : (jv ad v).category = v.category := by cases v <;> rfl
theorem jv_sum (ad : Nat → Nat) (st : List Value) : ((st.map (jv ad)).map fun v => v.category).sum = (st.map fun v => v.category).sum := by
  rw [List.map_map]
  congr 1
  apply List.map_congr_left
  intro v _
  exact jv_cat ad v
theorem jw_get {base : Nat} {cT : Nat → ClassId} {ad : Nat → Nat} {h : List jE} {i : Nat} {e : jE} (he : h[i]? = some e) : (jw base cT ad h)[i]? = some (base + i, jtr cT ad e) := by
  unfold jw
  rw [List.getElem?_mapIdx, he]
  rfl
theorem jw_of {base : Nat} {cT : Nat → ClassId} {ad : Nat → Nat} {h : List jE} {i : Nat} {q : Nat × va_E} (hq : (jw base cT ad h)[i]? = some q) : ∃ e, h[i]? = some e ∧ q = (base + i, jtr cT ad e) := by
  unfold jw at hq
  rw [List.getElem?_mapIdx] at hq
  cases he : h[i]? with
  | none => rw [he] at hq; cases hq
  | some e => rw [he] at hq; cases hq; exact ⟨e, rfl, rfl⟩
theorem jw_set {base : Nat} {cT : Nat → ClassId} {ad : Nat → Nat} {h : List jE} {i : Nat} {e : jE} : (jw base cT ad h).set i (base + i, jtr cT ad e) = jw base cT ad (h.set i e) := by
  unfold jw
  rw [List.mapIdx_set]
theorem jw_app {base : Nat} {cT : Nat → ClassId} {ad : Nat → Nat} {h : List jE} {e : jE} : jw base cT ad (h ++ [e]) = jw base cT ad h ++ [(base + h.length, jtr cT ad e)] := by
  unfold jw
  rw [List.mapIdx_append]
  simp
theorem jw_D {base : Nat} {cT : Nat → ClassId} {ad : Nat → Nat} {h : List jE} {A : Nat → Prop} (hA : ∀ q, base ≤ q → A q) : va_D A (jw base cT ad h) := by
  refine ⟨fun i j p q hi hj e => ?_, fun k q hk => ?_⟩
  · obtain ⟨e1, -, rfl⟩ := jw_of hi
    obtain ⟨e2, -, rfl⟩ := jw_of hj
    have e' : base + i = base + j := e
    omega
  · obtain ⟨e1, -, rfl⟩ := jw_of hk
    exact hA _ (Nat.le_add_right _ _)
theorem jad_lt {base : Nat} {ca : Nat → Nat} {i : Nat} (h : i < jK0) : jad base ca i = base + i := if_pos h
theorem jad_k {base : Nat} {ca : Nat → Nat} {i : Nat} : jad base ca (jK0 + i) = ca i := by
  unfold jad
  rw [if_neg (by omega), Nat.add_sub_cancel_left]
theorem jsum_set : ∀ (l : List Nat) (i x : Nat), l[i]? = some x → (l.set i x).sum = l.sum
  | [], _, _, _ => rfl
  | a :: l, 0, x, h => by
    cases h
    rfl
  | a :: l, i + 1, x, h => by
    show a + (l.set i x).sum = a + l.sum
    rw [jsum_set l i x h]
theorem jsl_set {h : List jE} {i : Nat} {e e' : jE} (he : h[i]? = some e) (hs : jsz e' = jsz e) : jsl (h.set i e') = jsl h := by
  unfold jsl
  rw [List.map_set]
  refine jsum_set _ _ _ ?_
  rw [List.getElem?_map, he, hs]
  rfl
theorem jsl_app (h g : List jE) : jsl (h ++ g) = jsl h + jsl g := by
  unfold jsl
  rw [List.map_append, List.sum_append]
theorem jget_mem : ∀ {L : List (Nat × Value)} {i : Nat} {v : Value}, jget L i = some v → ∃ k : Nat, L[k]? = some (i, v)
  | [], _, _, h => by cases h
  | q :: r, i, v, h => by
    unfold jget at h
    cases e : (q.1 == i) with
    | true =>
      rw [e] at h
      cases h
      refine ⟨0, ?_⟩
      rw [← eq_of_beq e]
      rfl
    | false =>
      rw [e] at h
      obtain ⟨k, hk⟩ := jget_mem (L := r) h
      exact ⟨k + 1, hk⟩
def jL (ad : Nat → Nat) (L : List (Nat × Value)) : List (Nat × Value) := L.map (fun q => (q.1, jv ad q.2))
theorem jL_get {ad : Nat → Nat} {ls : Array Slot} {nL : Nat} {L : List (Nat × Value)} (hl : lv_has ls nL (jL ad L)) {i : Nat} {v : Value} (h : jget L i = some v) : ls[i]? = some (.val (jv ad v)) := by
  obtain ⟨k, hk⟩ := jget_mem h
  refine lv_at hl k (i := i) ?_
  unfold jL
  rw [List.getElem?_map, hk]
  rfl
theorem jL_put (ad : Nat → Nat) (L : List (Nat × Value)) (i : Nat) (v : Value) : (i, jv ad v) :: (jL ad L).filter (fun q => !(q.1 == i) && !(q.1 + 1 == i && q.2.category == 2)) = jL ad (jput L i v) := by
  unfold jL jput
  rw [List.map_cons, List.filter_map]
  congr 2
  apply List.filter_congr
  intro q _
  simp only [Function.comp, jv_cat]
theorem jL_put2 (ad : Nat → Nat) (L : List (Nat × Value)) (i : Nat) (v : Value) : (i, jv ad v) :: (jL ad L).filter (fun q => !(q.1 == i) && (!(q.1 == i + 1) && !(q.1 + 1 == i && q.2.category == 2))) = jL ad (jput2 L i v) := by
  unfold jL jput2
  rw [List.map_cons, List.filter_map]
  congr 2
  apply List.filter_congr
  intro q _
  simp only [Function.comp, jv_cat]
theorem jupd (l : List Int32) (k : Nat) (x : Int32) (h : k < l.length) : upd (fun j => l.getD j 0) k x = fun j => (l.set k x).getD j 0 := by
  funext j
  by_cases e : j = k
  · subst e
    simp [upd, List.getD, h]
  · simp [upd, e, List.getD, List.getElem?_set, Ne.symm e]
theorem jupq (ad : Nat → Nat) (l : List (Option Nat)) (k v : Nat) (h : k < l.length) : va_up (fun j => (l.getD j none).map ad) k (some (ad v)) = fun j => ((l.set k (some v)).getD j none).map ad := by
  funext j
  by_cases e : j = k
  · subst e
    simp [va_up, List.getD, h]
  · simp [va_up, e, List.getD, List.getElem?_set, Ne.symm e]
theorem jcpy_len (f g : List Int32) (sp dp n : Nat) : (jcpy f g sp dp n).length = g.length := by simp [jcpy]
theorem jcpy_f (f g : List Int32) (sp dp n : Nat) (h : dp + n ≤ g.length) : va_cpy (fun j => f.getD j 0) (fun j => g.getD j 0) sp dp n = fun j => (jcpy f g sp dp n).getD j 0 := by
  funext j
  unfold va_cpy jcpy
  rw [List.getD_eq_getElem?_getD, List.getElem?_map]
  by_cases e : j < g.length
  · rw [List.getElem?_range e]
    rfl
  · have e0 : (List.range g.length)[j]? = none := List.getElem?_eq_none (by rw [List.length_range]; omega)
    rw [e0, if_neg (by omega)]
    simp [List.getD, List.getElem?_eq_none (Nat.le_of_not_lt e)]
theorem jvp {l : List Int32} {j x : Int32} (h : jat l j = some x) : vp_in j l.length ∧ l.getD j.toNatClampNeg 0 = x := by
  unfold jat at h
  by_cases e : j < 0
  · rw [if_pos e] at h
    cases h
  · rw [if_neg e] at h
    refine ⟨fun q => q.elim e (fun z => ?_), by simp [List.getD, h]⟩
    have := (List.getElem?_eq_some_iff.mp h).1
    omega
end
section
def jWs (p : Program) (l : Launch) (e : Env) (R : Room) (s : State) (m : MethodId) (args : Array Value) (below : List Frame) (meth : Method) (c : Code) (Q : State → Prop) (base : Nat) (ca : Nat → Nat) (cT : Nat → ClassId) (D : va_G) (A : Nat → Prop) (nL n0 s0 : Nat) (x : jC) : Prop :=
  x.2.2.2.length ≤ jK0 → ∀ (H : Heap) (locs : List Loc) (ls : Array Slot) (cells slots : Nat), cells + n0 = x.2.2.2.length → slots + s0 = jsl x.2.2.2 → lv_has ls nL (jL (jad base ca) x.2.1) → va_P D vwCl (jw base cT (jad base ca) x.2.2.2) H → va_S A s.heap H locs →
    W p l e R s m args below meth c H locs cells slots Q (F0 m x.1 ls (x.2.2.1.map (jv (jad base ca))))
section JS
variable {p : Program} {l : Launch} {e : Env} {R : Room} {s : State} {m : MethodId} {args : Array Value} {below : List Frame} {meth : Method} {c : Code} {Q : State → Prop} {base : Nat} {ca : Nat → Nat} {cT : Nat → ClassId} {D : va_G} {A : Nat → Prop} {nL n0 s0 : Nat}
variable {cc : ByteArray} {pc t : Nat} {L : List (Nat × Value)} {st : List Value} {h : List jE} {x' : jC}
theorem jgo_eq {x x' : jC} {t : Nat} {L : List (Nat × Value)} {st : List Value} {h : List jE} (h1 : jgo t L st h = some (.inl x')) : x' = (t, L, st, h) := by
  unfold jgo at h1
  cases h1
  rfl
theorem js_loadI_n (hx : p.tables.exec = Jvm.exec) (hb : c.code = cc) {k : Fin 4} (hd : decode cc pc = .ok (.iload_n k, 1)) (he : jloadI L k (pc + 1) st h = some (.inl x')) (kk : jWs p l e R s m args below meth c Q base ca cT D A nL n0 s0 x') : jWs p l e R s m args below meth c Q base ca cT D A nL n0 s0 (pc, L, st, h) := by
  unfold jloadI at he
  cases hg : jget L k with
  | none => rw [hg] at he; cases he
  | some v =>
    rw [hg] at he
    cases v <;> first | (cases he; done) | skip
    cases he
    exact fun hz H locs ls cells slots h1 h2 hl hP hS => lv_iload_n hx hb hd rfl (jL_get hl hg) (kk hz H locs ls cells slots h1 h2 hl hP hS)
theorem js_loadI (hx : p.tables.exec = Jvm.exec) (hb : c.code = cc) {i : Nat} (hd : decode cc pc = .ok (.iload i, 2)) (he : jloadI L i (pc + 2) st h = some (.inl x')) (kk : jWs p l e R s m args below meth c Q base ca cT D A nL n0 s0 x') : jWs p l e R s m args below meth c Q base ca cT D A nL n0 s0 (pc, L, st, h) := by
  unfold jloadI at he
  cases hg : jget L i with
  | none => rw [hg] at he; cases he
  | some v =>
    rw [hg] at he
    cases v <;> first | (cases he; done) | skip
    cases he
    exact fun hz H locs ls cells slots h1 h2 hl hP hS => lv_iload hx hb hd (jL_get hl hg) (kk hz H locs ls cells slots h1 h2 hl hP hS)
theorem js_loadL_n (hx : p.tables.exec = Jvm.exec) (hb : c.code = cc) {k : Fin 4} (hd : decode cc pc = .ok (.lload_n k, 1)) (he : jloadL L k (pc + 1) st h = some (.inl x')) (kk : jWs p l e R s m args below meth c Q base ca cT D A nL n0 s0 x') : jWs p l e R s m args below meth c Q base ca cT D A nL n0 s0 (pc, L, st, h) := by
  unfold jloadL at he
  cases hg : jget L k with
  | none => rw [hg] at he; cases he
  | some v =>
    rw [hg] at he
    cases v <;> first | (cases he; done) | skip
    cases he
    exact fun hz H locs ls cells slots h1 h2 hl hP hS => lv_lload_n hx hb hd rfl (jL_get hl hg) (kk hz H locs ls cells slots h1 h2 hl hP hS)
theorem js_loadL (hx : p.tables.exec = Jvm.exec) (hb : c.code = cc) {i : Nat} (hd : decode cc pc = .ok (.lload i, 2)) (he : jloadL L i (pc + 2) st h = some (.inl x')) (kk : jWs p l e R s m args below meth c Q base ca cT D A nL n0 s0 x') : jWs p l e R s m args below meth c Q base ca cT D A nL n0 s0 (pc, L, st, h) := by
  unfold jloadL at he
  cases hg : jget L i with
  | none => rw [hg] at he; cases he
  | some v =>
    rw [hg] at he
    cases v <;> first | (cases he; done) | skip
    cases he
    exact fun hz H locs ls cells slots h1 h2 hl hP hS => lv_lload hx hb hd (jL_get hl hg) (kk hz H locs ls cells slots h1 h2 hl hP hS)
theorem js_loadA_n (hx : p.tables.exec = Jvm.exec) (hb : c.code = cc) {k : Fin 4} (hd : decode cc pc = .ok (.aload_n k, 1)) (he : jloadA L k (pc + 1) st h = some (.inl x')) (kk : jWs p l e R s m args below meth c Q base ca cT D A nL n0 s0 x') : jWs p l e R s m args below meth c Q base ca cT D A nL n0 s0 (pc, L, st, h) := by
  unfold jloadA at he
  cases hg : jget L k with
  | none => rw [hg] at he; cases he
  | some v =>
    rw [hg] at he
    cases v <;> first | (cases he; done) | skip
    cases he
    exact fun hz H locs ls cells slots h1 h2 hl hP hS => lv_aload_n hx hb hd rfl (jL_get hl hg) (kk hz H locs ls cells slots h1 h2 hl hP hS)
theorem js_loadA (hx : p.tables.exec = Jvm.exec) (hb : c.code = cc) {i : Nat} (hd : decode cc pc = .ok (.aload i, 2)) (he : jloadA L i (pc + 2) st h = some (.inl x')) (kk : jWs p l e R s m args below meth c Q base ca cT D A nL n0 s0 x') : jWs p l e R s m args below meth c Q base ca cT D A nL n0 s0 (pc, L, st, h) := by
  unfold jloadA at he
  cases hg : jget L i with
  | none => rw [hg] at he; cases he
  | some v =>
    rw [hg] at he
    cases v <;> first | (cases he; done) | skip
    cases he
    exact fun hz H locs ls cells slots h1 h2 hl hP hS => lv_aload hx hb hd (jL_get hl hg) (kk hz H locs ls cells slots h1 h2 hl hP hS)
theorem js_storeI_n (hx : p.tables.exec = Jvm.exec) (hb : c.code = cc) {k : Fin 4} (hd : decode cc pc = .ok (.istore_n k, 1)) (he : jstoreI nL L k (pc + 1) st h = some (.inl x')) (kk : jWs p l e R s m args below meth c Q base ca cT D A nL n0 s0 x') : jWs p l e R s m args below meth c Q base ca cT D A nL n0 s0 (pc, L, st, h) := by
  unfold jstoreI at he
  split at he
  · rename_i x r
    cases hn : Nat.blt k nL with
    | false => rw [hn] at he; cases he
    | true =>
      rw [hn] at he
      cases he
      exact fun hz H locs ls cells slots h1 h2 hl hP hS => lv_istore_n hx hb hd rfl hl (Nat.le_of_ble_eq_true hn) (jL_put _ L k (.int x)) (fun ls' hl' => kk hz H locs ls' cells slots h1 h2 hl' hP hS)
  · cases he
theorem js_storeI (hx : p.tables.exec = Jvm.exec) (hb : c.code = cc) {i : Nat} (hd : decode cc pc = .ok (.istore i, 2)) (he : jstoreI nL L i (pc + 2) st h = some (.inl x')) (kk : jWs p l e R s m args below meth c Q base ca cT D A nL n0 s0 x') : jWs p l e R s m args below meth c Q base ca cT D A nL n0 s0 (pc, L, st, h) := by
  unfold jstoreI at he
  split at he
  · rename_i x r
    cases hn : Nat.blt i nL with
    | false => rw [hn] at he; cases he
    | true =>
      rw [hn] at he
      cases he
      exact fun hz H locs ls cells slots h1 h2 hl hP hS => lv_istore hx hb hd hl (Nat.le_of_ble_eq_true hn) (jL_put _ L i (.int x)) (fun ls' hl' => kk hz H locs ls' cells slots h1 h2 hl' hP hS)
  · cases he
theorem js_storeA_n (hx : p.tables.exec = Jvm.exec) (hb : c.code = cc) {k : Fin 4} (hd : decode cc pc = .ok (.astore_n k, 1)) (he : jstoreA nL L k (pc + 1) st h = some (.inl x')) (kk : jWs p l e R s m args below meth c Q base ca cT D A nL n0 s0 x') : jWs p l e R s m args below meth c Q base ca cT D A nL n0 s0 (pc, L, st, h) := by
  unfold jstoreA at he
  split at he
  · rename_i x r
    cases hn : Nat.blt k nL with
    | false => rw [hn] at he; cases he
    | true =>
      rw [hn] at he
      cases he
      exact fun hz H locs ls cells slots h1 h2 hl hP hS => lv_astore_n hx hb hd rfl hl (Nat.le_of_ble_eq_true hn) (jL_put _ L k (.ref x)) (fun ls' hl' => kk hz H locs ls' cells slots h1 h2 hl' hP hS)
  · cases he
theorem js_storeA (hx : p.tables.exec = Jvm.exec) (hb : c.code = cc) {i : Nat} (hd : decode cc pc = .ok (.astore i, 2)) (he : jstoreA nL L i (pc + 2) st h = some (.inl x')) (kk : jWs p l e R s m args below meth c Q base ca cT D A nL n0 s0 x') : jWs p l e R s m args below meth c Q base ca cT D A nL n0 s0 (pc, L, st, h) := by
  unfold jstoreA at he
  split at he
  · rename_i x r
    cases hn : Nat.blt i nL with
    | false => rw [hn] at he; cases he
    | true =>
      rw [hn] at he
      cases he
      exact fun hz H locs ls cells slots h1 h2 hl hP hS => lv_astore hx hb hd hl (Nat.le_of_ble_eq_true hn) (jL_put _ L i (.ref x)) (fun ls' hl' => kk hz H locs ls' cells slots h1 h2 hl' hP hS)
  · cases he
theorem js_storeL_n (hx : p.tables.exec = Jvm.exec) (hb : c.code = cc) {k : Fin 4} (hd : decode cc pc = .ok (.lstore_n k, 1)) (he : jstoreL nL L k (pc + 1) st h = some (.inl x')) (kk : jWs p l e R s m args below meth c Q base ca cT D A nL n0 s0 x') : jWs p l e R s m args below meth c Q base ca cT D A nL n0 s0 (pc, L, st, h) := by
  unfold jstoreL at he
  split at he
  · rename_i x r
    cases hn : Nat.blt ((k : Nat) + 1) nL with
    | false => rw [hn] at he; cases he
    | true =>
      rw [hn] at he
      cases he
      exact fun hz H locs ls cells slots h1 h2 hl hP hS => lv_lstore_n hx hb hd rfl hl (Nat.le_of_ble_eq_true hn) (jL_put2 _ L k (.long x)) (fun ls' hl' => kk hz H locs ls' cells slots h1 h2 hl' hP hS)
  · cases he
theorem js_storeL (hx : p.tables.exec = Jvm.exec) (hb : c.code = cc) {i : Nat} (hd : decode cc pc = .ok (.lstore i, 2)) (he : jstoreL nL L i (pc + 2) st h = some (.inl x')) (kk : jWs p l e R s m args below meth c Q base ca cT D A nL n0 s0 x') : jWs p l e R s m args below meth c Q base ca cT D A nL n0 s0 (pc, L, st, h) := by
  unfold jstoreL at he
  split at he
  · rename_i x r
    cases hn : Nat.blt (i + 1) nL with
    | false => rw [hn] at he; cases he
    | true =>
      rw [hn] at he
      cases he
      exact fun hz H locs ls cells slots h1 h2 hl hP hS => lv_lstore hx hb hd hl (Nat.le_of_ble_eq_true hn) (jL_put2 _ L i (.long x)) (fun ls' hl' => kk hz H locs ls' cells slots h1 h2 hl' hP hS)
  · cases he
theorem js_iinc (hx : p.tables.exec = Jvm.exec) (hb : c.code = cc) {i : Nat} {n : Int} {v : Int32} (hd : decode cc pc = .ok (.iinc i n, 3)) (hg : jget L i = some (.int v)) (hn : Nat.blt i nL = true) (kk : jWs p l e R s m args below meth c Q base ca cT D A nL n0 s0 (pc + 3, jput L i (.int (v + Int32.ofInt n)), st, h)) : jWs p l e R s m args below meth c Q base ca cT D A nL n0 s0 (pc, L, st, h) := by
  intro hz H locs ls cells slots h1 h2 hl hP hS
  obtain ⟨k, hk⟩ := jget_mem hg
  refine lv_iinc (k := k) hx hb hd hl (x := v) ?_ rfl (Nat.le_of_ble_eq_true hn) (jL_put _ L i (.int _)) (fun ls' hl' => kk hz H locs ls' cells slots h1 h2 hl' hP hS)
  unfold jL
  rw [List.getElem?_map, hk]
  rfl
/-- an instruction that turns the stack alone -/
theorem js_st {st' : List Value} {t : Nat} (hw : ∀ (H : Heap) (locs : List Loc) (ls : Array Slot) (cells slots : Nat), W p l e R s m args below meth c H locs cells slots Q (F0 m t ls (st'.map (jv (jad base ca)))) → W p l e R s m args below meth c H locs cells slots Q (F0 m pc ls (st.map (jv (jad base ca))))) (kk : jWs p l e R s m args below meth c Q base ca cT D A nL n0 s0 (t, L, st', h)) : jWs p l e R s m args below meth c Q base ca cT D A nL n0 s0 (pc, L, st, h) :=
  fun hz H locs ls cells slots h1 h2 hl hP hS => hw H locs ls cells slots (kk hz H locs ls cells slots h1 h2 hl hP hS)
theorem js_op2 {f : Int32 → Int32 → Int32} (hw : ∀ (H : Heap) (locs : List Loc) (ls : Array Slot) (cells slots : Nat) (x y : Int32) (rest : List Value), W p l e R s m args below meth c H locs cells slots Q (F0 m t ls (.int (f x y) :: rest)) → W p l e R s m args below meth c H locs cells slots Q (F0 m pc ls (.int y :: .int x :: rest))) (he : jop2 f t L st h = some (.inl x')) (kk : jWs p l e R s m args below meth c Q base ca cT D A nL n0 s0 x') : jWs p l e R s m args below meth c Q base ca cT D A nL n0 s0 (pc, L, st, h) := by
  unfold jop2 at he
  split at he
  · cases he
    exact js_st (fun H locs ls cells slots k => hw H locs ls cells slots _ _ _ k) kk
  · cases he
theorem js_op2L {f : Int64 → Int64 → Int64} (hw : ∀ (H : Heap) (locs : List Loc) (ls : Array Slot) (cells slots : Nat) (x y : Int64) (rest : List Value), W p l e R s m args below meth c H locs cells slots Q (F0 m t ls (.long (f x y) :: rest)) → W p l e R s m args below meth c H locs cells slots Q (F0 m pc ls (.long y :: .long x :: rest))) (he : jop2L f t L st h = some (.inl x')) (kk : jWs p l e R s m args below meth c Q base ca cT D A nL n0 s0 x') : jWs p l e R s m args below meth c Q base ca cT D A nL n0 s0 (pc, L, st, h) := by
  unfold jop2L at he
  split at he
  · cases he
    exact js_st (fun H locs ls cells slots k => hw H locs ls cells slots _ _ _ k) kk
  · cases he
theorem js_op1 {f : Int32 → Int32} (hw : ∀ (H : Heap) (locs : List Loc) (ls : Array Slot) (cells slots : Nat) (x : Int32) (rest : List Value), W p l e R s m args below meth c H locs cells slots Q (F0 m t ls (.int (f x) :: rest)) → W p l e R s m args below meth c H locs cells slots Q (F0 m pc ls (.int x :: rest))) (he : jop1 f t L st h = some (.inl x')) (kk : jWs p l e R s m args below meth c Q base ca cT D A nL n0 s0 x') : jWs p l e R s m args below meth c Q base ca cT D A nL n0 s0 (pc, L, st, h) := by
  unfold jop1 at he
  split at he
  · cases he
    exact js_st (fun H locs ls cells slots k => hw H locs ls cells slots _ _ k) kk
  · cases he
theorem js_shL {f : Int64 → Int32 → Int64} (hw : ∀ (H : Heap) (locs : List Loc) (ls : Array Slot) (cells slots : Nat) (x : Int64) (y : Int32) (rest : List Value), W p l e R s m args below meth c H locs cells slots Q (F0 m t ls (.long (f x y) :: rest)) → W p l e R s m args below meth c H locs cells slots Q (F0 m pc ls (.int y :: .long x :: rest))) (he : jshL f t L st h = some (.inl x')) (kk : jWs p l e R s m args below meth c Q base ca cT D A nL n0 s0 x') : jWs p l e R s m args below meth c Q base ca cT D A nL n0 s0 (pc, L, st, h) := by
  unfold jshL at he
  split at he
  · cases he
    exact js_st (fun H locs ls cells slots k => hw H locs ls cells slots _ _ _ k) kk
  · cases he
theorem js_if (hx : p.tables.exec = Jvm.exec) (hb : c.code = cc) {q : ClassFile.Cond} {off : Int} {a : Nat} (hd : decode cc pc = .ok (.ifCond q off, 3)) (ht : (pc : Int) + off = (a : Int)) (he : jif q a (pc + 3) L st h = some (.inl x')) (kk : jWs p l e R s m args below meth c Q base ca cT D A nL n0 s0 x') : jWs p l e R s m args below meth c Q base ca cT D A nL n0 s0 (pc, L, st, h) := by
  unfold jif at he
  split at he
  · rename_i x r
    cases hc : jcond q x 0 with
    | true =>
      rw [hc] at he
      cases he
      refine js_st (t := a) (st' := r) (fun H locs ls cells slots k => ?_) kk
      cases q
      · exact lv_if_eq hx hb hd ht (fun _ => k) (fun z => absurd (of_decide_eq_true hc) z)
      · exact lv_if_ne hx hb hd ht (fun _ => k) (fun z => absurd z (of_decide_eq_true hc))
      · exact lv_if_lt hx hb hd ht (fun _ => k) (fun z => absurd (of_decide_eq_true hc) z)
      · exact lv_if_ge hx hb hd ht (fun _ => k) (fun z => absurd (of_decide_eq_true hc) z)
      · exact lv_if_gt hx hb hd ht (fun _ => k) (fun z => absurd (of_decide_eq_true hc) z)
      · exact lv_if_le hx hb hd ht (fun _ => k) (fun z => absurd (of_decide_eq_true hc) z)
    | false =>
      rw [hc] at he
      cases he
      refine js_st (t := pc + 3) (st' := r) (fun H locs ls cells slots k => ?_) kk
      cases q
      · exact lv_if_eq hx hb hd ht (fun z => absurd z (of_decide_eq_false hc)) (fun _ => k)
      · exact lv_if_ne hx hb hd ht (fun z => absurd z (of_decide_eq_false hc)) (fun _ => k)
      · exact lv_if_lt hx hb hd ht (fun z => absurd z (of_decide_eq_false hc)) (fun _ => k)
      · exact lv_if_ge hx hb hd ht (fun z => absurd z (of_decide_eq_false hc)) (fun _ => k)
      · exact lv_if_gt hx hb hd ht (fun z => absurd z (of_decide_eq_false hc)) (fun _ => k)
      · exact lv_if_le hx hb hd ht (fun z => absurd z (of_decide_eq_false hc)) (fun _ => k)
  · cases he
theorem js_icmp (hx : p.tables.exec = Jvm.exec) (hb : c.code = cc) {q : ClassFile.Cond} {off : Int} {a : Nat} (hd : decode cc pc = .ok (.if_icmp q off, 3)) (ht : (pc : Int) + off = (a : Int)) (he : jicmp q a (pc + 3) L st h = some (.inl x')) (kk : jWs p l e R s m args below meth c Q base ca cT D A nL n0 s0 x') : jWs p l e R s m args below meth c Q base ca cT D A nL n0 s0 (pc, L, st, h) := by
  unfold jicmp at he
  split at he
  · rename_i y x r
    cases hc : jcond q x y with
    | true =>
      rw [hc] at he
      cases he
      refine js_st (t := a) (st' := r) (fun H locs ls cells slots k => ?_) kk
      cases q
      · exact lv_icmp_eq hx hb hd ht (fun _ => k) (fun z => absurd (of_decide_eq_true hc) z)
      · exact lv_icmp_ne hx hb hd ht (fun _ => k) (fun z => absurd z (of_decide_eq_true hc))
      · exact lv_icmp_lt hx hb hd ht (fun _ => k) (fun z => absurd (of_decide_eq_true hc) z)
      · exact lv_icmp_ge hx hb hd ht (fun _ => k) (fun z => absurd (of_decide_eq_true hc) z)
      · exact lv_icmp_gt hx hb hd ht (fun _ => k) (fun z => absurd (of_decide_eq_true hc) z)
      · exact lv_icmp_le hx hb hd ht (fun _ => k) (fun z => absurd (of_decide_eq_true hc) z)
    | false =>
      rw [hc] at he
      cases he
      refine js_st (t := pc + 3) (st' := r) (fun H locs ls cells slots k => ?_) kk
      cases q
      · exact lv_icmp_eq hx hb hd ht (fun z => absurd z (of_decide_eq_false hc)) (fun _ => k)
      · exact lv_icmp_ne hx hb hd ht (fun z => absurd z (of_decide_eq_false hc)) (fun _ => k)
      · exact lv_icmp_lt hx hb hd ht (fun z => absurd z (of_decide_eq_false hc)) (fun _ => k)
      · exact lv_icmp_ge hx hb hd ht (fun z => absurd z (of_decide_eq_false hc)) (fun _ => k)
      · exact lv_icmp_gt hx hb hd ht (fun z => absurd z (of_decide_eq_false hc)) (fun _ => k)
      · exact lv_icmp_le hx hb hd ht (fun z => absurd z (of_decide_eq_false hc)) (fun _ => k)
  · cases he
end JS
end
section
/-! the constants: static int arrays (0 .. 4), Strings (10 ..), the script (20) -/
def jst : List (String × String × List Int32) := [("FoamHead$Foam", "ROW_STEP", [0, 1, 1, 0, -1, -1]), ("FoamHead$Foam", "ODD_STEP", [1, 1, 0, -1, 0, 1]), ("FoamHead$Foam", "EVEN_STEP", [1, 0, -1, -1, -1, 0]), ("FoamHead$Kinds", "ABOVE", [-1, 0, 1, 0, 0, 3, 0]), ("FoamHead$Voices", "BODIES", [10, 11, 12, 13, 20, 0, 0, 21, 30, 0, 31, 0, 0, 41, 40, 0, 0, 0, 0, 50, 0, 60, 61, 0, 70, 0, 0, 0])]
def jstr : List (String × Nat × String) := [("FoamHead$Reader", 18, ""), ("FoamHead$Reader", 24, "stghn"), ("FoamHead$Reader", 26, "wvstn"), ("FoamHead$Reader", 28, "sgwrk"), ("FoamHeadModel", 27, "stghn"), ("FoamHeadModel", 29, "wvstn"), ("FoamHeadModel", 31, "sgwrk")]
def jcs (xs : List Int32) (k : Nat) : Option (List Int32) := bif Nat.blt k 5 then (jst[k]?).map (fun q => q.2.2) else bif k == 20 then some xs else none
def jtys (cT : Nat → ClassId) : List (ClassId × FieldType) := [(cT 0, .int), (cT 1, .array .int), (cT 2, .object "FoamHead$Text"), (cT 3, .object "java/lang/String")]
def jnest : List (String × Nat × MethodName × String) := [("FoamHead", 9, ⟨"FoamHead$World", "<init>", "()V"⟩, "FoamHead"), ("FoamHead$World", 11, ⟨"FoamHead$Foam", "<init>", "()V"⟩, "FoamHead"), ("FoamHead$World", 20, ⟨"FoamHead$Text", "<init>", "()V"⟩, "FoamHead"), ("FoamHead", 24, ⟨"FoamHead$Reader", "<init>", "()V"⟩, "FoamHead"), ("FoamHead", 31, ⟨"FoamHead$Search", "<init>", "()V"⟩, "FoamHead"), ("FoamHead", 38, ⟨"FoamHead$Voices", "<init>", "()V"⟩, "FoamHead"), ("FoamHead", 45, ⟨"FoamHead$Sheets", "<init>", "()V"⟩, "FoamHead")]
def jStr (ca : Nat → Nat) (A : Nat → Prop) (U : State) (H : Heap) : Prop := (∀ (k : Nat) (l : List Int32), k < 7 → jbs (30 + k) = some l → va_OF "java/lang/String" "coder" "B" (.int 0) (ca (10 + k)) A U H ∧ va_OF "java/lang/String" "value" "[B" (.ref (ca (30 + k))) (ca (10 + k)) A U H ∧ va_T .byte (ca (30 + k)) l.length (fun j => .int (l.getD j 0)) A U H) ∧ va_Z "java/lang/String" "COMPACT_STRINGS" "Z" (.int 1) A U H ∧ (va_Z "jdk/internal/util/Preconditions" "SIOOBE_FORMATTER" "Ljava/util/function/BiFunction;" .null A U H ∨ va_Z "jdk/internal/util/Preconditions" "SIOOBE_FORMATTER" "Ljava/util/function/BiFunction;" (.ref (ca 50)) A U H)
def jAOA (U : State) : Prop := (Cond.arrayOver (.array .int)).before #[] U = true
/-- what holds of the machine beside the cells, in every method's start -/
def jK (xs : List Int32) (ca : Nat → Nat) (cT : Nat → ClassId) (D : va_G) (A : Nat → Prop) (U : State) (H : Heap) : Prop :=
  va_K D vwCl (jtys cT) U ∧ (∀ (k : Nat) (l : List Int32), jcs xs k = some l → va_T .int (ca k) l.length (fun j => .int (l.getD j 0)) A U H) ∧
  (∀ (k : Nat) (q : String × String × List Int32), jst[k]? = some q → va_Z q.1 q.2.1 "[I" (.ref (ca k)) A U H) ∧
  (∀ (k : Nat) (q : String × Nat × String), jstr[k]? = some q → vk_R q.1 q.2.1 q.2.2 (ca (10 + k)) U ∧ va_O "java/lang/String" (ca (10 + k)) A U H) ∧
  (∀ (k : Nat) (q : String × Nat × MethodName × String), jnest[k]? = some q → va_Nw (.methodLinkNest q.1 q.2.1 q.2.2.1 q.2.2.2) U) ∧
  va_AO "FoamHead$Text" U ∧ va_AO "java/lang/String" U ∧ jAOA U ∧ jStr ca A U H
end
section
theorem jK_mv {xs : List Int32} {ca : Nat → Nat} {cT : Nat → ClassId} {D : va_G} {A : Nat → Prop} {u U : State} {H H1 : Heap} (hvm : u.vm.Alike U.vm) (h1 : ∀ (o : String) (k : Nat) (tx : String) (a : Nat), vk_R o k tx a u → vk_R o k tx a U) (h2 : ∀ (a : String) (i : Nat) (x : MethodName) (h : String), va_Nw (.methodLinkNest a i x h) u → va_Nw (.methodLinkNest a i x h) U)
    (hq : ∀ a : Nat, a < H.size → ¬ A a → H1[a]? = H[a]?) (h : jK xs ca cT D A u H) : jK xs ca cT D A U H1 := by
  obtain ⟨k1, k2, k3, k4, k5, k6, k7, k8, k9, k10, k11⟩ := h
  exact ⟨k1.moved hvm, fun k l hk => ((k2 k l hk).kept hq).moved hvm, fun k q hk => ((k3 k q hk).kept hq).moved hvm, fun k q hk => ⟨h1 _ _ _ _ (k4 k q hk).1, ((k4 k q hk).2.kept hq).moved hvm⟩, fun k q hk => h2 _ _ _ _ (k5 k q hk), k6.moved hvm, k7.moved hvm, over_moved hvm k8, fun k l hk hl => ⟨((k9 k l hk hl).1.kept hq).moved hvm, ((k9 k l hk hl).2.1.kept hq).moved hvm, ((k9 k l hk hl).2.2.kept hq).moved hvm⟩, (k10.kept hq).moved hvm, k11.elim (fun z => Or.inl ((z.kept hq).moved hvm)) (fun z => Or.inr ((z.kept hq).moved hvm))⟩
theorem jbq_c {i k : Nat} {o e : Option (List Int32)} {P : Prop} (hk : e = some (e.getD [])) {l : List Int32} (h : (bif Nat.beq i (jK0 + k) then e else o) = some l) (h1 : i = jK0 + k → e = some l → P) (h2 : o = some l → P) : P := by
  cases hb : Nat.beq i (jK0 + k) with
  | true => rw [hb] at h; exact h1 (Nat.eq_of_beq_eq_true hb) h
  | false => rw [hb] at h; exact h2 h
theorem jbs_k {i : Nat} {l : List Int32} (h : jbq i = some l) : ∃ k, i = jK0 + (30 + k) ∧ k < 7 ∧ jbs (30 + k) = some l := by
  unfold jbq at h
  refine jbq_c rfl h (fun a b => ⟨0, a, by decide, b⟩) fun h => ?_
  refine jbq_c rfl h (fun a b => ⟨1, a, by decide, b⟩) fun h => ?_
  refine jbq_c rfl h (fun a b => ⟨2, a, by decide, b⟩) fun h => ?_
  refine jbq_c rfl h (fun a b => ⟨3, a, by decide, b⟩) fun h => ?_
  refine jbq_c rfl h (fun a b => ⟨4, a, by decide, b⟩) fun h => ?_
  refine jbq_c rfl h (fun a b => ⟨5, a, by decide, b⟩) fun h => ?_
  refine jbq_c rfl h (fun a b => ⟨6, a, by decide, b⟩) fun h => ?_
  cases h
theorem jadd20 (k : Nat) : jK0 + (10 + k) + 20 = jK0 + (30 + k) := by
  generalize jK0 = w
  omega
theorem jbs_some {k : Nat} (h : k < 7) : ∃ l, jbs (30 + k) = some l := by
  match k, h with
  | 0, _ => exact ⟨_, rfl⟩
  | 1, _ => exact ⟨_, rfl⟩
  | 2, _ => exact ⟨_, rfl⟩
  | 3, _ => exact ⟨_, rfl⟩
  | 4, _ => exact ⟨_, rfl⟩
  | 5, _ => exact ⟨_, rfl⟩
  | 6, _ => exact ⟨_, rfl⟩
theorem jstq_k {i : Nat} (h : jstq i = true) : ∃ k, i = jK0 + (10 + k) ∧ k < 7 := by
  unfold jstq at h
  rw [Bool.and_eq_true] at h
  have h1 : jK0 + 10 ≤ i := Nat.le_of_ble_eq_true h.1
  have h2 : i < jK0 + 17 := Nat.le_of_ble_eq_true h.2
  generalize jK0 = w at h1 h2 ⊢
  exact ⟨i - (w + 10), by omega, by omega⟩
/-- at a call: the callee's start -/
theorem jK_call {xs : List Int32} {ca : Nat → Nat} {cT : Nat → ClassId} {D : va_G} {A : Nat → Prop} {s U : State} {H : Heap} {locs : List Loc} (h : jK xs ca cT D A s s.heap) (hS : va_S A s.heap H locs) (hU : U.heap = H) (hW : s.WarmedH U.vm) : jK xs ca cT D A U U.heap := by
  rw [hU]
  exact jK_mv hW.alike (fun _ _ _ _ => vk_R.warm hW) (fun _ _ _ _ => va_Nw.warmM hW) hS.2.1 h
theorem jK_blind {xs : List Int32} {ca : Nat → Nat} {cT : Nat → ClassId} {D : va_G} {A : Nat → Prop} {U : State} {g : JFrame} {mk : MethodId} {a : Array Value} (h : jK xs ca cT D A U U.heap) : jK xs ca cT D A (U.calling g mk a) (U.calling g mk a).heap :=
  jK_mv (u := U) (U := U.calling g mk a) (Vm.Alike.refl U.vm) (fun _ _ _ _ => vk_R.same rfl) (fun _ _ _ _ => va_Nw.same rfl rfl) (fun _ _ _ => rfl) h
def jfld (G : List Cond) (own : String) (i a b : Nat) : Prop := ∃ q : vw_C, vwCl[a]? = some q ∧ b < q.2.2 ∧ (∀ w ∈ u_ws q.1 q.2.1 q.2.2, w ∈ G) ∧ Cond.fieldLink own i (q.2.1 b).1 (q.2.1 b).2.1 (q.2.1 b).2.2.1 ∈ G
def jtyc (c : Nat) (ty : FieldType) : Prop := (c = 0 ∧ ty = .int) ∨ (c = 1 ∧ ty = .boolean) ∨ (c = 2 ∧ ((∃ n, ty = .object n) ∨ ∃ t, ty = .array t))
def jfput (G : List Cond) (own : String) (ini : Prop) (i a b c : Nat) : Prop := ∃ (q : vw_C) (ty0 : Nat → FieldType), vwCl[a]? = some q ∧ b < q.2.2 ∧ (∀ w ∈ u_ws q.1 q.2.1 q.2.2, w ∈ G) ∧ Cond.fieldLink own i (q.2.1 b).1 (q.2.1 b).2.1 (q.2.1 b).2.2.1 ∈ G ∧
  (∀ k, k < q.2.2 → parseFieldDescriptor (q.2.1 k).2.2.1 = some (ty0 k)) ∧ (∀ x, x < q.2.2 → ∀ y, y < q.2.2 → x ≠ y → (q.2.1 x).2.1 ≠ (q.2.1 y).2.1) ∧ jtyc c (ty0 b) ∧ ((q.2.1 b).2.2.2 = false ∨ ((q.2.1 b).2.2.2 = true ∧ ini ∧ (q.2.1 b).1 = own))
theorem jfit_ok {ty : Nat} {v : Value} (h : jfit ty v = true) (ad : Nat → Nat) {t : FieldType} (ht : jtyc ty t) : narrow t (jv ad v) = jv ad v ∧ fits t (jv ad v) = true := by
  cases v with
  | int x =>
    have h' : (ty == 0 || (ty == 1 && decide (x = 0 ∨ x = 1))) = true := h
    simp only [Bool.or_eq_true, Bool.and_eq_true, beq_iff_eq, decide_eq_true_eq] at h'
    rcases ht with ⟨e, rfl⟩ | ⟨e, rfl⟩ | ⟨e, -⟩
    · exact ⟨rfl, rfl⟩
    · rcases h' with z | ⟨-, rfl | rfl⟩
      · omega
      · exact ⟨by show narrow .boolean (.int 0) = .int 0; decide, by show fits .boolean (.int 0) = true; decide⟩
      · exact ⟨by show narrow .boolean (.int 1) = .int 1; decide, by show fits .boolean (.int 1) = true; decide⟩
    · omega
  | ref x =>
    have h' : (ty == 2) = true := h
    simp only [beq_iff_eq] at h'
    rcases ht with ⟨e, rfl⟩ | ⟨e, rfl⟩ | ⟨e, ⟨n, rfl⟩ | ⟨n, rfl⟩⟩
    · omega
    · omega
    · exact ⟨rfl, rfl⟩
    · exact ⟨rfl, rfl⟩
  | _ => cases h
section JH
variable {p : Program} {l : Launch} {e : Env} {R : Room} {s : State} {m : MethodId} {args : Array Value} {below : List Frame} {meth : Method} {c : Code} {Q : State → Prop} {base : Nat} {ca : Nat → Nat} {cT : Nat → ClassId} {D : va_G} {A : Nat → Prop} {nL n0 s0 : Nat}
variable {cc : ByteArray} {pc t : Nat} {L : List (Nat × Value)} {st : List Value} {h : List jE} {x' : jC} {G Ts : List Cond} {own : String} {xs : List Int32}
theorem jlt {h : List jE} {i : Nat} {y : jE} (hz : h.length ≤ jK0) (hi : h[i]? = some y) : i < jK0 := Nat.lt_of_lt_of_le (List.getElem?_eq_some_iff.mp hi).1 hz
theorem js_get (hx : p.tables.exec = Jvm.exec) (hb : c.code = cc) (hts : ∀ w ∈ Ts, w.before args s = true) (hG : ∀ w ∈ G, w ∈ Ts) (hown : s.vm.findClass own = some m.cls) (hK : jK xs ca cT D A s s.heap) {i a b : Nat} (hd : decode cc pc = .ok (.getfield i, 3)) (hf : jfld G own i a b) (he : jgetf a b (pc + 3) L st h = some (.inl x')) (kk : jWs p l e R s m args below meth c Q base ca cT D A nL n0 s0 x') : jWs p l e R s m args below meth c Q base ca cT D A nL n0 s0 (pc, L, st, h) := by
  obtain ⟨⟨C, T, N⟩, f1, f2, f3, f4⟩ := hf
  unfold jgetf at he
  split at he
  · rename_i j r
    split at he
    · rename_i o ho
      cases hc : (o.1 == a) with
      | false => rw [hc] at he; cases he
      | true =>
        rw [hc] at he
        obtain ⟨ci, fs⟩ := o
        cases eq_of_beq hc
        cases hv : fs[b]? with
        | none => simp only [cond_true, hv] at he; cases he
        | some v =>
          simp only [cond_true, hv] at he
          cases he
          intro hz H locs ls cells slots h1 h2 hl hP hS
          have e1 : jad base ca j = base + j := jad_lt (jlt hz ho)
          show W p l e R s m args below meth c H locs cells slots Q (F0 m pc ls (.ref (jad base ca j) :: r.map (jv (jad base ca))))
          rw [e1]
          exact va_get (D := D) (tys := jtys cT) (C := C) (T := T) (N := N) (ref := (T b).1) (v := jv (jad base ca) v) hx hb hts (fun w hw => hG w (f3 w hw)) hown hK.1 hP j (jw_get ho) f1 b f2 (hts _ (hG _ f4)) (fun _ h9 => h9) (by rw [List.getElem?_map, hv]; rfl) hd (kk hz H locs ls cells slots h1 h2 hl hP hS)
    · cases he
  · cases he
theorem js_put (hx : p.tables.exec = Jvm.exec) (hb : c.code = cc) (hts : ∀ w ∈ Ts, w.before args s = true) (hG : ∀ w ∈ G, w ∈ Ts) (hown : s.vm.findClass own = some m.cls) (hK : jK xs ca cT D A s s.heap) (hA : ∀ q, base ≤ q → A q) {ini : Prop} (hin : ini → meth.name = "<init>") {i a b q : Nat} (hd : decode cc pc = .ok (.putfield i, 3)) (hf : jfput G own ini i a b q) (he : jputf a b q (pc + 3) L st h = some (.inl x')) (kk : jWs p l e R s m args below meth c Q base ca cT D A nL n0 s0 x') : jWs p l e R s m args below meth c Q base ca cT D A nL n0 s0 (pc, L, st, h) := by
  obtain ⟨⟨C, T, N⟩, ty0, f1, f2, f3, f4, f5, f6, f7, f8⟩ := hf
  unfold jputf at he
  split at he
  · rename_i v j r
    split at he
    · rename_i o ho
      cases hc : (o.1 == a && (Nat.blt b o.2.length && jfit q v)) with
      | false => rw [hc] at he; cases he
      | true =>
        rw [hc] at he
        simp only [Bool.and_eq_true, beq_iff_eq] at hc
        obtain ⟨ci, fs⟩ := o
        obtain ⟨rfl, hlen, hfit⟩ := hc
        have hlen : b < fs.length := Nat.le_of_ble_eq_true hlen
        cases he
        intro hz H locs ls cells slots h1 h2 hl hP hS
        have e1 : jad base ca j = base + j := jad_lt (jlt hz ho)
        obtain ⟨g1, g2⟩ := jfit_ok hfit (jad base ca) f7
        have hset : (jw base cT (jad base ca) h).set j (base + j, .inr (ci, (fs.map (jv (jad base ca))).set b (jv (jad base ca) v))) = jw base cT (jad base ca) (h.set j (.inl (ci, fs.set b v))) := by
          rw [← jw_set]
          show _ = (jw base cT (jad base ca) h).set j (base + j, .inr (ci, (fs.set b v).map (jv (jad base ca))))
          rw [List.map_set]
        have hz2 : (h.set j (.inl (ci, fs.set b v))).length ≤ jK0 := by rw [List.length_set]; exact hz
        have h12 : cells + n0 = (h.set j (.inl (ci, fs.set b v))).length := by rw [List.length_set]; exact h1
        have h22 : slots + s0 = jsl (h.set j (.inl (ci, fs.set b v))) := by rw [jsl_set ho (by simp [jsz])]; exact h2
        show W p l e R s m args below meth c H locs cells slots Q (F0 m pc ls (jv (jad base ca) v :: .ref (jad base ca j) :: r.map (jv (jad base ca))))
        rw [e1]
        have k2 : ∀ (H1 : Heap) (locs1 : List Loc), va_P D vwCl ((jw base cT (jad base ca) h).set j (base + j, .inr (ci, (fs.map (jv (jad base ca))).set b (jv (jad base ca) v)))) H1 → va_D A ((jw base cT (jad base ca) h).set j (base + j, .inr (ci, (fs.map (jv (jad base ca))).set b (jv (jad base ca) v)))) → va_S A s.heap H1 locs1 → W p l e R s m args below meth c H1 locs1 cells slots Q (F0 m (pc + 3) ls (r.map (jv (jad base ca)))) := by
          intro H1 locs1 hP1 _ hS1
          rw [hset] at hP1
          exact kk hz2 H1 locs1 ls cells slots h12 h22 hl hP1 hS1
        rcases f8 with f8 | ⟨f8, f9, f10⟩
        · exact va_put (D := D) (tys := jtys cT) (C := C) (T := T) (N := N) (ref := (T b).1) (ty := ty0 b) hx hb hts (fun w hw => hG w (f3 w hw)) ty0 f5 f6 hown hK.1 hP (jw_D hA) hS j (jw_get ho) f1 b f2 (hts _ (hG _ f4)) (fun _ h9 => h9) f8 (f5 b f2) g1 g2 (by rw [List.length_map]; exact hlen) hd k2
        · exact va_putF (D := D) (tys := jtys cT) (C := C) (T := T) (N := N) (ref := (T b).1) (ty := ty0 b) hx hb hts (fun w hw => hG w (f3 w hw)) ty0 f5 f6 hown hK.1 hP (jw_D hA) hS j (jw_get ho) f1 b f2 (hts _ (hG _ f4)) (fun _ h9 => h9) f8 (hin f9) f10 (f5 b f2) g1 g2 (by rw [List.length_map]; exact hlen) hd k2
    · cases he
  · cases he
theorem js_ald (hx : p.tables.exec = Jvm.exec) (hb : c.code = cc) (hK : jK xs ca cT D A s s.heap) (hd : decode cc pc = .ok (.iaload, 1)) (he : jiald (jcs xs) (pc + 1) L st h = some (.inl x')) (kk : jWs p l e R s m args below meth c Q base ca cT D A nL n0 s0 x') : jWs p l e R s m args below meth c Q base ca cT D A nL n0 s0 (pc, L, st, h) := by
  unfold jiald at he
  split at he
  · rename_i j i r
    split at he
    · rename_i lz hlz
      split at he
      · rename_i x hx9
        cases he
        obtain ⟨v1, v2⟩ := jvp hx9
        intro hz H locs ls cells slots h1 h2 hl hP hS
        show W p l e R s m args below meth c H locs cells slots Q (F0 m pc ls (.int j :: .ref (jad base ca i) :: r.map (jv (jad base ca))))
        have kk2 := kk hz H locs ls cells slots h1 h2 hl hP hS
        unfold jints at hlz
        cases hi : Nat.blt i jK0 with
        | true =>
          rw [hi, cond_true] at hlz
          have hi' : i < jK0 := Nat.le_of_ble_eq_true hi
          split at hlz
          · rename_i a ha
            cases hc : (a.1 == 0) with
            | false => rw [hc] at hlz; cases hlz
            | true =>
              rw [hc] at hlz
              cases hlz
              obtain ⟨t0, la⟩ := a
              cases eq_of_beq hc
              rw [jad_lt hi']
              exact va_iald (D := D) (tys := jtys cT) hx hb hK.1 hP i 0 (jw_get ha) rfl v1 hd (by rw [v2]; exact kk2)
          · cases hlz
        | false =>
          rw [hi, cond_false] at hlz
          have hi' : ¬ i < jK0 := fun z => by
            have z2 : Nat.blt i jK0 = true := Nat.ble_eq_true_of_le z
            rw [hi] at z2
            cases z2
          obtain ⟨cell, t1, t2, t3, t4, t5, t6, t7⟩ := hK.2.1 _ _ hlz
          have hlt : j.toNatClampNeg < lz.length := Nat.not_le.mp fun q => v1 (Or.inr q)
          have e1 : jad base ca i = ca (i - jK0) := if_neg hi'
          rw [e1]
          exact W.iald (v := .int x) hx hb (by rw [hS.2.1 _ (Array.getElem?_eq_some_iff.mp t1).1 t7]; exact t1) t2 t3 (fun q => q.elim (fun z => v1 (Or.inl z)) (fun z => by omega)) ((t6 _ hlt).trans (congrArg (fun z => some (Value.int z)) v2)) rfl rfl hd kk2
      · cases he
    · cases he
  · cases he
theorem js_len (hx : p.tables.exec = Jvm.exec) (hb : c.code = cc) (hK : jK xs ca cT D A s s.heap) (hd : decode cc pc = .ok (.arraylength, 1)) (he : jalen (jcs xs) (pc + 1) L st h = some (.inl x')) (kk : jWs p l e R s m args below meth c Q base ca cT D A nL n0 s0 x') : jWs p l e R s m args below meth c Q base ca cT D A nL n0 s0 (pc, L, st, h) := by
  unfold jalen at he
  split at he
  · rename_i i r
    split at he
    · rename_i lz hlz
      cases he
      intro hz H locs ls cells slots h1 h2 hl hP hS
      show W p l e R s m args below meth c H locs cells slots Q (F0 m pc ls (.ref (jad base ca i) :: r.map (jv (jad base ca))))
      have kk2 := kk hz H locs ls cells slots h1 h2 hl hP hS
      unfold jints at hlz
      cases hi : Nat.blt i jK0 with
      | true =>
        rw [hi, cond_true] at hlz
        have hi' : i < jK0 := Nat.le_of_ble_eq_true hi
        split at hlz
        · rename_i a ha
          cases hc : (a.1 == 0) with
          | false => rw [hc] at hlz; cases hlz
          | true =>
            rw [hc] at hlz
            cases hlz
            obtain ⟨t0, la⟩ := a
            cases eq_of_beq hc
            rw [jad_lt hi']
            exact va_alen (D := D) (tys := jtys cT) hx hb hK.1 hP i 0 (jw_get ha) rfl rfl hd kk2
        · cases hlz
      | false =>
        rw [hi, cond_false] at hlz
        have hi' : ¬ i < jK0 := fun z => by
          have z2 : Nat.blt i jK0 = true := Nat.ble_eq_true_of_le z
          rw [hi] at z2
          cases z2
        obtain ⟨cell, t1, t2, t3, t4, t5, t6, t7⟩ := hK.2.1 _ _ hlz
        have e1 : jad base ca i = ca (i - jK0) := if_neg hi'
        rw [e1]
        exact W.alen (n := Int32.ofNat lz.length) hx hb (by rw [hS.2.1 _ (Array.getElem?_eq_some_iff.mp t1).1 t7]; exact t1) t2 t5 rfl rfl hd kk2
    · split at he
      · rename_i lz hlz
        cases he
        intro hz H locs ls cells slots h1 h2 hl hP hS
        show W p l e R s m args below meth c H locs cells slots Q (F0 m pc ls (.ref (jad base ca i) :: r.map (jv (jad base ca))))
        have kk2 := kk hz H locs ls cells slots h1 h2 hl hP hS
        obtain ⟨k, e1, k1, k2⟩ := jbs_k hlz
        have e2 : jad base ca i = ca (30 + k) := by rw [e1, jad_k]
        rw [e2]
        exact va_tlen hx hb (hK.2.2.2.2.2.2.2.2.1 k lz k1 k2).2.2 hS rfl hd kk2
      · cases he
  · cases he
theorem js_bald (hx : p.tables.exec = Jvm.exec) (hb : c.code = cc) (hK : jK xs ca cT D A s s.heap) (hd : decode cc pc = .ok (.baload, 1)) (he : jbald (pc + 1) L st h = some (.inl x')) (kk : jWs p l e R s m args below meth c Q base ca cT D A nL n0 s0 x') : jWs p l e R s m args below meth c Q base ca cT D A nL n0 s0 (pc, L, st, h) := by
  unfold jbald at he
  split at he
  · rename_i j i r
    split at he
    · rename_i lz hlz
      split at he
      · rename_i x hx9
        cases he
        obtain ⟨v1, v2⟩ := jvp hx9
        intro hz H locs ls cells slots h1 h2 hl hP hS
        show W p l e R s m args below meth c H locs cells slots Q (F0 m pc ls (.int j :: .ref (jad base ca i) :: r.map (jv (jad base ca))))
        have kk2 := kk hz H locs ls cells slots h1 h2 hl hP hS
        obtain ⟨k, e1, k1, k2⟩ := jbs_k hlz
        have e2 : jad base ca i = ca (30 + k) := by rw [e1, jad_k]
        rw [e2]
        exact va_tb hx hb (hK.2.2.2.2.2.2.2.2.1 k lz k1 k2).2.2 hS (v := .int x) v1 (congrArg Value.int v2) hd kk2
      · cases he
    · cases he
  · cases he
theorem js_getk (hx : p.tables.exec = Jvm.exec) (hb : c.code = cc) (hts : ∀ w ∈ Ts, w.before args s = true) (hG : ∀ w ∈ G, w ∈ Ts) (hown : s.vm.findClass own = some m.cls) (hK : jK xs ca cT D A s s.heap) {i b : Nat} (hd : decode cc pc = .ok (.getfield i, 3)) (hf : (b = 0 ∧ Cond.fieldLink own i "java/lang/String" "value" "[B" ∈ G) ∨ (b = 1 ∧ Cond.fieldLink own i "java/lang/String" "coder" "B" ∈ G)) (he : jgetk b (pc + 3) L st h = some (.inl x')) (kk : jWs p l e R s m args below meth c Q base ca cT D A nL n0 s0 x') : jWs p l e R s m args below meth c Q base ca cT D A nL n0 s0 (pc, L, st, h) := by
  unfold jgetk at he
  split at he
  · rename_i j r
    cases hq : jstq j with
    | false => rw [hq] at he; cases he
    | true =>
      rw [hq, cond_true] at he
      obtain ⟨k, e1, k1⟩ := jstq_k hq
      obtain ⟨lz, k2⟩ := jbs_some k1
      have e2 : jad base ca j = ca (10 + k) := by rw [e1, jad_k]
      rcases hf with ⟨rfl, hw⟩ | ⟨rfl, hw⟩
      · have he : jgo (pc + 3) L (.ref (j + 20) :: r) h = some (.inl x') := he
        cases he
        intro hz H locs ls cells slots h1 h2 hl hP hS
        have kk2 : W p l e R s m args below meth c H locs cells slots Q (F0 m (pc + 3) ls (.ref (jad base ca (j + 20)) :: r.map (jv (jad base ca)))) := kk hz H locs ls cells slots h1 h2 hl hP hS
        show W p l e R s m args below meth c H locs cells slots Q (F0 m pc ls (.ref (jad base ca j) :: r.map (jv (jad base ca))))
        have e3 : jad base ca (j + 20) = ca (30 + k) := by rw [e1, jadd20, jad_k]
        rw [e3] at kk2
        rw [e2]
        exact vk_getf hx hb (hK.2.2.2.2.2.2.2.2.1 k lz k1 k2).2.1 hS hown (hts _ (hG _ hw)) (fun _ h9 => h9) hd kk2
      · have he : jgo (pc + 3) L (.int 0 :: r) h = some (.inl x') := he
        cases he
        intro hz H locs ls cells slots h1 h2 hl hP hS
        have kk2 : W p l e R s m args below meth c H locs cells slots Q (F0 m (pc + 3) ls (.int 0 :: r.map (jv (jad base ca)))) := kk hz H locs ls cells slots h1 h2 hl hP hS
        show W p l e R s m args below meth c H locs cells slots Q (F0 m pc ls (.ref (jad base ca j) :: r.map (jv (jad base ca))))
        rw [e2]
        exact vk_getf hx hb (hK.2.2.2.2.2.2.2.2.1 k lz k1 k2).1 hS hown (hts _ (hG _ hw)) (fun _ h9 => h9) hd kk2
  · cases he
theorem js_ast (hx : p.tables.exec = Jvm.exec) (hb : c.code = cc) (hK : jK xs ca cT D A s s.heap) (hA : ∀ q, base ≤ q → A q) (hd : decode cc pc = .ok (.iastore, 1)) (he : jiast (pc + 1) L st h = some (.inl x')) (kk : jWs p l e R s m args below meth c Q base ca cT D A nL n0 s0 x') : jWs p l e R s m args below meth c Q base ca cT D A nL n0 s0 (pc, L, st, h) := by
  unfold jiast at he
  split at he
  · rename_i x j i r
    split at he
    · rename_i a ha
      split at he
      · rename_i hc
        obtain ⟨t0, la⟩ := a
        obtain ⟨rfl, c1, c2⟩ := hc
        cases he
        intro hz H locs ls cells slots h1 h2 hl hP hS
        show W p l e R s m args below meth c H locs cells slots Q (F0 m pc ls (.int x :: .int j :: .ref (jad base ca i) :: r.map (jv (jad base ca))))
        rw [jad_lt (jlt hz ha)]
        refine va_iast (D := D) (tys := jtys cT) hx hb hK.1 hP (jw_D hA) hS i 0 (jw_get ha) rfl (fun q => q.elim c1 (fun z => by omega)) hd (fun H1 locs1 hP1 _ hS1 => ?_)
        rw [jupd la _ x c2, show la.length = (la.set j.toNatClampNeg x).length by rw [List.length_set]] at hP1
        have hP2 : va_P D vwCl ((jw base cT (jad base ca) h).set i (base + i, jtr cT (jad base ca) (.inr (.inl (0, la.set j.toNatClampNeg x))))) H1 := hP1
        rw [jw_set] at hP2
        exact kk (by rw [List.length_set]; exact hz) H1 locs1 ls cells slots (by rw [List.length_set]; exact h1) (by rw [jsl_set ha (by simp [jsz])]; exact h2) hl hP2 hS1
      · cases he
    · cases he
  · cases he
end JH
end
section
theorem jq9 (q : Nat) (b1 : jK0 + 10 ≤ q) (b2 : q < jK0 + 17) : ∃ k9 : Nat, k9 < 7 ∧ q = jK0 + (10 + k9) := ⟨q - (jK0 + 10), by omega, by omega⟩
section JA
variable {p : Program} {l : Launch} {e : Env} {R : Room} {s : State} {m : MethodId} {args : Array Value} {below : List Frame} {meth : Method} {c : Code} {Q : State → Prop} {base : Nat} {ca : Nat → Nat} {cT : Nat → ClassId} {D : va_G} {A : Nat → Prop} {nL n0 s0 : Nat}
variable {cc : ByteArray} {pc t : Nat} {L : List (Nat × Value)} {st : List Value} {h : List jE} {x' : jC} {G Ts : List Cond} {own : String} {xs : List Int32} {H : Heap} {locs : List Loc} {cells slots : Nat}
theorem j_sized {g : JFrame} (k : H.size ≤ s.heap.size + cells → W p l e R s m args below meth c H locs cells slots Q g) : W p l e R s m args below meth c H locs cells slots Q g := fun T hT X => k (by
  have h1 : (T.setVm s.vm).heap.size ≤ s.heap.size + cells := X.same.2.2.1
  have h2 : (T.setVm s.vm).heap = H := hT
  rwa [h2] at h1) T hT X
theorem j_size (hbase : s.heap.size = base + n0) (h1 : cells + n0 = h.length) (hP : va_P D vwCl (jw base cT (jad base ca) h) H) (hS : va_S A s.heap H locs) (hz : H.size ≤ s.heap.size + cells) : H.size = base + h.length := by
  have hlo : base + h.length ≤ H.size := by
    by_cases e0 : h.length = 0
    · have := hS.1
      omega
    · have hi : h.length - 1 < h.length := by omega
      have h9 := hP (h.length - 1) _ (jw_get (List.getElem?_eq_getElem hi))
      have := h9.lt
      have h10 : base + (h.length - 1) < H.size := this
      omega
  omega
theorem js_aald (hx : p.tables.exec = Jvm.exec) (hb : c.code = cc) (hK : jK xs ca cT D A s s.heap) (hd : decode cc pc = .ok (.aaload, 1)) (he : jaald (pc + 1) L st h = some (.inl x')) (kk : jWs p l e R s m args below meth c Q base ca cT D A nL n0 s0 x') : jWs p l e R s m args below meth c Q base ca cT D A nL n0 s0 (pc, L, st, h) := by
  unfold jaald at he
  split at he
  · rename_i j i r
    split at he
    · rename_i a ha
      split at he
      · cases he
      · rename_i hc
        split at he
        · rename_i q hq
          cases he
          obtain ⟨k, la⟩ := a
          have c1 : ¬ j < 0 := fun z => hc (Or.inl z)
          have c2 : k = 1 ∨ k = 2 ∨ k = 3 := Classical.byContradiction fun z => hc (Or.inr z)
          have hlt : j.toNatClampNeg < la.length := (List.getElem?_eq_some_iff.mp hq).1
          intro hz H locs ls cells slots h1 h2 hl hP hS
          have h1 : cells + n0 = h.length := h1
          have h2 : slots + s0 = jsl h := h2
          have hz : h.length ≤ jK0 := hz
          show W p l e R s m args below meth c H locs cells slots Q (F0 m pc ls (.int j :: .ref (jad base ca i) :: r.map (jv (jad base ca))))
          rw [jad_lt (jlt hz ha)]
          have kk2 := kk hz H locs ls cells slots h1 h2 hl hP hS
          have hin : vp_in j la.length := fun z => z.elim c1 (fun z => by omega)
          have hval : va_rf ((fun j => (la.getD j none).map (jad base ca)) j.toNatClampNeg) = Value.ref (jad base ca q) := by
            simp [List.getD, hq, va_rf]
          have go : ∀ ty : FieldType, (jtys cT)[k]? = some (cT k, ty) → refKind ty = true → W p l e R s m args below meth c H locs cells slots Q (F0 m pc ls (.int j :: .ref (base + i) :: r.map (jv (jad base ca)))) := fun ty ht hr =>
            W.aald (v := .ref (jad base ca q)) (ty := ty) hx hb (hP i _ (jw_get ha)) ((hK.1.2 k _ ht).1 la.length (fun j => va_rf ((la.getD j none).map (jad base ca)))) hr (fun z => by cases z) (by show ¬ (j < 0 ∨ (arrV _ _ _).slots.size ≤ _); rw [arrV_size]; exact hin) (by show (arrV _ _ _).slots[_]? = _; rw [arrV_read _ _ hlt, ← hval]) rfl rfl hd kk2
          rcases c2 with rfl | rfl | rfl
          · exact go _ rfl rfl
          · exact go _ rfl rfl
          · exact go _ rfl rfl
        · cases he
    · cases he
  · cases he
theorem js_aast (hx : p.tables.exec = Jvm.exec) (hb : c.code = cc) (hK : jK xs ca cT D A s s.heap) (hA : ∀ q, base ≤ q → A q) (hd : decode cc pc = .ok (.aastore, 1)) (he : jaast (pc + 1) L st h = some (.inl x')) (kk : jWs p l e R s m args below meth c Q base ca cT D A nL n0 s0 x') : jWs p l e R s m args below meth c Q base ca cT D A nL n0 s0 (pc, L, st, h) := by
  unfold jaast at he
  split at he
  · rename_i q j i r
    split at he
    · rename_i a ha
      split at he
      · rename_i hc
        obtain ⟨k, la⟩ := a
        obtain ⟨c0, c1, c2⟩ := hc
        have c2 : j.toNatClampNeg < la.length := c2
        have c0 : jmay h k q = true := c0
        cases he
        intro hz H locs ls cells slots h1 h2 hl hP hS
        have h1 : cells + n0 = h.length := h1
        have h2 : slots + s0 = jsl h := h2
        have hz : h.length ≤ jK0 := hz
        show W p l e R s m args below meth c H locs cells slots Q (F0 m pc ls (.ref (jad base ca q) :: .int j :: .ref (jad base ca i) :: r.map (jv (jad base ca))))
        rw [jad_lt (i := i) (jlt hz ha)]
        have hin : vp_in j la.length := fun z => z.elim c1 (fun z => by omega)
        have k2 : ∀ (H1 : Heap) (locs1 : List Loc), va_P D vwCl ((jw base cT (jad base ca) h).set i (base + i, .inl (cT k, la.length, .inr (.inr (.inr (.inr (va_up (fun j => (la.getD j none).map (jad base ca)) j.toNatClampNeg (some (jad base ca q))))))))) H1 → va_D A ((jw base cT (jad base ca) h).set i (base + i, .inl (cT k, la.length, .inr (.inr (.inr (.inr (va_up (fun j => (la.getD j none).map (jad base ca)) j.toNatClampNeg (some (jad base ca q))))))))) → va_S A s.heap H1 locs1 → W p l e R s m args below meth c H1 locs1 cells slots Q (F0 m (pc + 1) ls (r.map (jv (jad base ca)))) := by
          intro H1 locs1 hP1 _ hS1
          rw [jupq (jad base ca) la _ q c2, show la.length = (la.set j.toNatClampNeg (some q)).length by rw [List.length_set]] at hP1
          have hP2 : va_P D vwCl ((jw base cT (jad base ca) h).set i (base + i, jtr cT (jad base ca) (.inr (.inr (k, la.set j.toNatClampNeg (some q)))))) H1 := hP1
          rw [jw_set] at hP2
          exact kk (by rw [List.length_set]; exact hz) H1 locs1 ls cells slots (by rw [List.length_set]; exact h1) (by rw [jsl_set ha (by simp [jsz])]; exact h2) hl hP2 hS1
        unfold jmay at c0
        cases e3 : ((k : Nat) == 3) with
        | true =>
          cases eq_of_beq e3
          rw [e3, cond_true, Bool.and_eq_true] at c0
          have b1 : jK0 + 10 ≤ q := Nat.le_of_ble_eq_true c0.1
          have b2 : q < jK0 + 17 := Nat.le_of_ble_eq_true c0.2
          obtain ⟨k9, b4, rfl⟩ := jq9 q b1 b2
          have b3 : k9 < jstr.length := b4
          rw [jad_k] at k2 ⊢
          obtain ⟨cell, o1, o2, o3, o4⟩ := ((hK.2.2.2.1 k9 _ (List.getElem?_eq_getElem b3)).2.kept hS.2.1)
          exact vb_astq (D := D) (tys := jtys cT) (E := "java/lang/String") (C := "java/lang/String") hx hb hK.1 hP (jw_D hA) hS i 3 (jw_get ha) rfl ⟨cell, o1, o2, o3⟩ (fun comp c0 => vb_asgS comp c0) hin hd k2
        | false =>
          rw [e3, cond_false] at c0
          cases e2 : ((k : Nat) == 2) with
          | true =>
            cases eq_of_beq e2
            rw [e2, cond_true] at c0
            split at c0
            · rename_i o ho
              obtain ⟨ci, fs⟩ := o
              cases eq_of_beq c0
              rw [jad_lt (i := q) (jlt hz ho)] at k2 ⊢
              exact va_astq (D := D) (tys := jtys cT) (r := (RX5, TX5, 3)) hx hb hK.1 hP (jw_D hA) hS i 2 q 4 (jw_get ha) rfl (jw_get ho) rfl hin hd k2
            · cases c0
          | false =>
            rw [e2, cond_false] at c0
            cases c0
      · cases he
    · cases he
  · cases he
def jfnew (G : List Cond) (own : String) (i a : Nat) : Prop := ∃ (q : vw_C) (ty0 : Nat → FieldType), vwCl[a]? = some q ∧ (∀ w ∈ u_ws q.1 q.2.1 q.2.2, w ∈ G) ∧ (∀ k, k < q.2.2 → parseFieldDescriptor (q.2.1 k).2.2.1 = some (ty0 k)) ∧ Cond.classLink own i q.1 ∈ G ∧ Cond.instantiable q.1 q.2.2 ∈ G ∧ Cond.initialized q.1 ∈ G ∧ (jdf a).length = q.2.2 ∧ (∀ j, j < q.2.2 → defaultValue (ty0 j) = vp_V (jdf a) j)
theorem jdf_map (ad : Nat → Nat) (a : Nat) : (jdf a).map (jv ad) = jdf a := by
  unfold jdf
  split <;> rfl
theorem js_new (hx : p.tables.exec = Jvm.exec) (hb : c.code = cc) (hts : ∀ w ∈ Ts, w.before args s = true) (hG : ∀ w ∈ G, w ∈ Ts) (hown : s.vm.findClass own = some m.cls) (hK : jK xs ca cT D A s s.heap) (hA : ∀ q, base ≤ q → A q) (hbase : s.heap.size = base + n0) {i a : Nat} (hd : decode cc pc = .ok (.new i, 3)) (hf : jfnew G own i a) (he : jnew a (pc + 3) (jdf a) L st h = some (.inl x')) (hR1 : x'.2.2.2.length ≤ R.cells + n0) (hR2 : jsl x'.2.2.2 ≤ R.slots + s0) (kk : jWs p l e R s m args below meth c Q base ca cT D A nL n0 s0 x') : jWs p l e R s m args below meth c Q base ca cT D A nL n0 s0 (pc, L, st, h) := by
  obtain ⟨⟨C, T, N⟩, ty0, f1, f2, f3, f4, f5, f6, f7, f8⟩ := hf
  unfold jnew at he
  cases hk : Nat.blt h.length jK0 with
  | false => rw [hk] at he; cases he
  | true =>
    rw [hk] at he
    cases he
    have hk' : h.length < jK0 := Nat.le_of_ble_eq_true hk
    intro hz H locs ls cells slots h1 h2 hl hP hS
    have h1 : cells + n0 = h.length := h1
    have h2 : slots + s0 = jsl h := h2
    have hz : h.length ≤ jK0 := hz
    refine j_sized fun hz9 => ?_
    have hsz := j_size hbase h1 hP hS hz9
    have hKn := hK.1.1 a _ f1
    have hlen : (h ++ [(.inl (a, jdf a) : jE)]).length = h.length + 1 := by simp
    have hsl : jsl (h ++ [(.inl (a, jdf a) : jE)]) = jsl h + N := by
      rw [jsl_app]
      show jsl h + (jsz (.inl (a, jdf a)) + 0) = _
      show jsl h + ((jdf a).length + 0) = _
      rw [f7]
      rfl
    have r1 : h.length + 1 ≤ R.cells + n0 := by rw [← hlen]; exact hR1
    have r2 : jsl h + N ≤ R.slots + s0 := by rw [← hsl]; exact hR2
    refine W.newcK hx hb hown (hts _ (hG _ f4)) (hts _ (hG _ f5)) (hts _ (hG _ f6)) rfl hd (by omega) (by show slots + N ≤ R.slots; omega) hKn.2.1 hsz fun H1 kC hkC e1 z1 o1 => ?_
    have hP1 : va_P D vwCl (jw base cT (jad base ca) (h ++ [.inl (a, jdf a)])) H1 := by
      rw [jw_app]
      refine (hP.kept (fun k x hx9 => o1 x.1 (by rw [← hsz]; exact (hP k x hx9).lt))).app (fun k x hx9 => ?_)
      have hz : k < 1 := (List.getElem?_eq_some_iff.mp hx9).1
      rw [show k = 0 by omega] at hx9
      cases hx9
      refine ⟨_, f1, ?_⟩
      show t_OB _ _ _ _ H1 (vp_V ((jdf a).map (jv (jad base ca))))
      rw [jdf_map]
      exact (u_born ty0 hts (fun w hw => hG w (f2 w hw)) hKn hkC e1 f3).to f8
    have hS1 : va_S A s.heap H1 locs := ⟨Nat.le_trans hS.1 (by omega), fun x q1 q2 => (o1 x (by rw [← hsz]; exact Nat.lt_of_lt_of_le q1 hS.1)).trans (hS.2.1 x q1 q2), hS.2.2⟩
    have k2 := kk (by rw [hlen]; exact hk') H1 locs ls (cells + 1) (slots + N) (by rw [hlen]; omega) (by rw [hsl]; omega) hl hP1 hS1
    have k3 : W p l e R s m args below meth c H1 locs (cells + 1) (slots + N) Q (F0 m (pc + 3) ls (.ref (jad base ca h.length) :: st.map (jv (jad base ca)))) := k2
    rw [jad_lt hk'] at k3
    exact k3
theorem js_newa (hx : p.tables.exec = Jvm.exec) (hb : c.code = cc) (hts : ∀ w ∈ Ts, w.before args s = true) (hG : ∀ w ∈ G, w ∈ Ts) (hK : jK xs ca cT D A s s.heap) (hA : ∀ q, base ≤ q → A q) (hbase : s.heap.size = base + n0) (hd : decode cc pc = .ok (.newarray .int, 2)) (hf : Cond.arrayClass .int ∈ G) (he : jnewa (pc + 2) L st h = some (.inl x')) (hR1 : x'.2.2.2.length ≤ R.cells + n0) (hR2 : jsl x'.2.2.2 ≤ R.slots + s0) (kk : jWs p l e R s m args below meth c Q base ca cT D A nL n0 s0 x') : jWs p l e R s m args below meth c Q base ca cT D A nL n0 s0 (pc, L, st, h) := by
  unfold jnewa at he
  split at he
  · rename_i n r
    split at he
    · rename_i hc
      obtain ⟨c1, c2, c3⟩ := hc
      cases he
      intro hz H locs ls cells slots h1 h2 hl hP hS
      have h1 : cells + n0 = h.length := h1
      have h2 : slots + s0 = jsl h := h2
      have hz : h.length ≤ jK0 := hz
      refine j_sized fun hz9 => ?_
      have hsz := j_size hbase h1 hP hS hz9
      have hlen : (h ++ [(.inr (.inl (0, List.replicate n.toNatClampNeg 0)) : jE)]).length = h.length + 1 := by simp
      have hsl : jsl (h ++ [(.inr (.inl (0, List.replicate n.toNatClampNeg 0)) : jE)]) = jsl h + n.toNatClampNeg := by
        rw [jsl_app]
        show jsl h + ((List.replicate n.toNatClampNeg (0 : Int32)).length + 0) = _
        rw [List.length_replicate]
        rfl
      have r1 : h.length + 1 ≤ R.cells + n0 := by rw [← hlen]; exact hR1
      have r2 : jsl h + n.toNatClampNeg ≤ R.slots + s0 := by rw [← hsl]; exact hR2
      refine va_newaK hx hb (atype := .int) (hts _ (hG _ hf)) rfl hd rfl c1 rfl (by show n.toNatClampNeg * 4 ≤ 536870912; omega) (by omega) (by omega) hsz fun H1 cA e1 z1 o1 hAr hNm => ?_
      have hcA : cA = cT 0 := Option.some.inj (hNm.symm.trans (hK.1.2 0 _ rfl).2)
      subst hcA
      have hP1 : va_P D vwCl (jw base cT (jad base ca) (h ++ [.inr (.inl (0, List.replicate n.toNatClampNeg 0))])) H1 := by
        rw [jw_app]
        refine (hP.kept (fun k x hx9 => o1 x.1 (by rw [← hsz]; exact (hP k x hx9).lt))).app (fun k x hx9 => ?_)
        have hz : k < 1 := (List.getElem?_eq_some_iff.mp hx9).1
        rw [show k = 0 by omega] at hx9
        cases hx9
        show H1[base + h.length]? = some (vp_cell (cT 0) ((List.replicate n.toNatClampNeg (0 : Int32)).length, .inl (fun j => (List.replicate n.toNatClampNeg (0 : Int32)).getD j 0)))
        rw [e1]
        have hfun : (fun j => (List.replicate n.toNatClampNeg (0 : Int32)).getD j 0) = fun _ => 0 := by
          funext j
          rw [List.getD_eq_getElem?_getD, List.getElem?_replicate]
          split <;> rfl
        rw [hfun, List.length_replicate]
        rfl
      have hS1 : va_S A s.heap H1 locs := ⟨Nat.le_trans hS.1 (by omega), fun x q1 q2 => (o1 x (by rw [← hsz]; exact Nat.lt_of_lt_of_le q1 hS.1)).trans (hS.2.1 x q1 q2), hS.2.2⟩
      have k2 := kk (by rw [hlen]; exact c3) H1 locs ls (cells + 1) (slots + n.toNatClampNeg) (by rw [hlen]; omega) (by rw [hsl]; omega) hl hP1 hS1
      have k3 : W p l e R s m args below meth c H1 locs (cells + 1) (slots + n.toNatClampNeg) Q (F0 m (pc + 2) ls (.ref (jad base ca h.length) :: r.map (jv (jad base ca)))) := k2
      rw [jad_lt c3] at k3
      exact k3
    · cases he
  · cases he
end JA
end
section
section JB
variable {p : Program} {l : Launch} {e : Env} {R : Room} {s : State} {m : MethodId} {args : Array Value} {below : List Frame} {meth : Method} {c : Code} {Q : State → Prop} {base : Nat} {ca : Nat → Nat} {cT : Nat → ClassId} {D : va_G} {A : Nat → Prop} {nL n0 s0 : Nat}
variable {cc : ByteArray} {pc t : Nat} {L : List (Nat × Value)} {st : List Value} {h : List jE} {x' : jC} {G Ts : List Cond} {own : String} {xs : List Int32} {H : Heap} {locs : List Loc} {cells slots : Nat}
/-- kinds 2 and 3: what an array of them is made over -/
def jover (a : Nat) : String := bif a == 2 then "FoamHead$Text" else "java/lang/String"
theorem js_newq (hx : p.tables.exec = Jvm.exec) (hb : c.code = cc) (hts : ∀ w ∈ Ts, w.before args s = true) (hG : ∀ w ∈ G, w ∈ Ts) (hown : s.vm.findClass own = some m.cls) (hK : jK xs ca cT D A s s.heap) (hA : ∀ q, base ≤ q → A q) (hbase : s.heap.size = base + n0) {i a : Nat} (hd : decode cc pc = .ok (.anewarray i, 3)) (hf : (a = 2 ∨ a = 3) ∧ Cond.classLink own i (jover a) ∈ G) (he : jnewq a (pc + 3) L st h = some (.inl x')) (hR1 : x'.2.2.2.length ≤ R.cells + n0) (hR2 : jsl x'.2.2.2 ≤ R.slots + s0) (kk : jWs p l e R s m args below meth c Q base ca cT D A nL n0 s0 x') : jWs p l e R s m args below meth c Q base ca cT D A nL n0 s0 (pc, L, st, h) := by
  obtain ⟨hf, hf2⟩ := hf
  unfold jnewq at he
  split at he
  · rename_i n r
    split at he
    · rename_i hc
      obtain ⟨c1, c2, c3⟩ := hc
      cases he
      intro hz H locs ls cells slots h1 h2 hl hP hS
      have h1 : cells + n0 = h.length := h1
      have h2 : slots + s0 = jsl h := h2
      have hz : h.length ≤ jK0 := hz
      refine j_sized fun hz9 => ?_
      have hsz := j_size hbase h1 hP hS hz9
      have hlen : (h ++ [(.inr (.inr (a, List.replicate n.toNatClampNeg none)) : jE)]).length = h.length + 1 := by simp
      have hsl : jsl (h ++ [(.inr (.inr (a, List.replicate n.toNatClampNeg none)) : jE)]) = jsl h + n.toNatClampNeg := by
        rw [jsl_app]
        show jsl h + ((List.replicate n.toNatClampNeg (none : Option Nat)).length + 0) = _
        rw [List.length_replicate]
        rfl
      have r1 : h.length + 1 ≤ R.cells + n0 := by rw [← hlen]; exact hR1
      have r2 : jsl h + n.toNatClampNeg ≤ R.slots + s0 := by rw [← hsl]; exact hR2
      have hover : va_AO (jover a) s ∧ (jtys cT)[a]? = some (cT a, .object (jover a)) := by
        rcases hf with rfl | rfl
        · exact ⟨hK.2.2.2.2.2.1, rfl⟩
        · exact ⟨hK.2.2.2.2.2.2.1, rfl⟩
      refine W.anew hx hb hown (hts _ (hG _ hf2)) (va_AO.use hover.1) rfl hd rfl c1 (by omega) (by omega) (by omega) fun cA kA comp f1 f2 f3 f4 => ?_
      generalize hH1 : H.push ({ cls := cA, slots := Array.replicate n.toNatClampNeg .null, vm := .none } : Cell) = H1
      have z1 : H1.size = H.size + 1 := by rw [← hH1, Array.size_push]
      have e1 : H1[H.size]? = some (arrV cA n.toNatClampNeg (fun _ => .null)) := by rw [← hH1, Array.getElem?_push_size, ← arrV_new]
      have o1 : ∀ q : Nat, q < H.size → H1[q]? = H[q]? := fun q hq => by rw [← hH1, Array.getElem?_push, if_neg (Nat.ne_of_lt hq)]
      obtain ⟨kA2, comp2, g1, g2, g3, g4⟩ : va_RA s (cT a) (.object (jover a)) := (hK.1.2 a _ hover.2).2
      have hcA : cA = cT a := Option.some.inj (f1.symm.trans g4)
      subst hcA
      have hP1 : va_P D vwCl (jw base cT (jad base ca) (h ++ [.inr (.inr (a, List.replicate n.toNatClampNeg none))])) H1 := by
        rw [jw_app]
        refine (hP.kept (fun k x hx9 => o1 x.1 ((hP k x hx9).lt))).app (fun k x hx9 => ?_)
        have hz : k < 1 := (List.getElem?_eq_some_iff.mp hx9).1
        rw [show k = 0 by omega] at hx9
        cases hx9
        show H1[base + h.length]? = some (vp_cell (cT a) ((List.replicate n.toNatClampNeg (none : Option Nat)).length, .inr (.inr (.inr (.inr (fun j => ((List.replicate n.toNatClampNeg (none : Option Nat)).getD j none).map (jad base ca)))))))
        rw [← hsz, e1]
        have hfun : (fun j => ((List.replicate n.toNatClampNeg (none : Option Nat)).getD j none).map (jad base ca)) = fun _ => none := by
          funext j
          rw [List.getD_eq_getElem?_getD, List.getElem?_replicate]
          split <;> rfl
        rw [hfun, List.length_replicate, vp_cell_q]
        rfl
      have hS1 : va_S A s.heap H1 locs := ⟨Nat.le_trans hS.1 (by omega), fun x q1 q2 => (o1 x (Nat.lt_of_lt_of_le q1 hS.1)).trans (hS.2.1 x q1 q2), hS.2.2⟩
      have k2 := kk (by rw [hlen]; exact c3) H1 locs ls (cells + 1) (slots + n.toNatClampNeg) (by rw [hlen]; omega) (by rw [hsl]; omega) hl hP1 hS1
      have k3 : W p l e R s m args below meth c H1 locs (cells + 1) (slots + n.toNatClampNeg) Q (F0 m (pc + 3) ls (.ref (jad base ca h.length) :: r.map (jv (jad base ca)))) := k2
      rw [jad_lt c3, ← hsz] at k3
      exact k3
    · cases he
  · cases he
theorem jw_app2 {h g : List jE} : jw base cT (jad base ca) (h ++ g) = jw base cT (jad base ca) h ++ g.mapIdx (fun i e => (base + (i + h.length), jtr cT (jad base ca) e)) := by
  unfold jw
  rw [List.mapIdx_append]
theorem jsl_rep (e : jE) : ∀ n : Nat, jsl (List.replicate n e) = n * jsz e
  | 0 => by
    rw [Nat.zero_mul]
    rfl
  | n + 1 => by
    have h1 : jsl (List.replicate (n + 1) e) = jsz e + jsl (List.replicate n e) := rfl
    rw [h1, jsl_rep e n, Nat.succ_mul, Nat.add_comm]
theorem js_newg (hx : p.tables.exec = Jvm.exec) (hb : c.code = cc) (hts : ∀ w ∈ Ts, w.before args s = true) (hG : ∀ w ∈ G, w ∈ Ts) (hown : s.vm.findClass own = some m.cls) (hK : jK xs ca cT D A s s.heap) (hA : ∀ q, base ≤ q → A q) (hbase : s.heap.size = base + n0) {i : Nat} (hd : decode cc pc = .ok (.multianewarray i 2, 4)) (hf : Cond.classLink own i "[[I" ∈ G ∧ Cond.arrayClass .int ∈ G) (he : jnewg 1 (pc + 4) L st h = some (.inl x')) (hR1 : x'.2.2.2.length ≤ R.cells + n0) (hR2 : jsl x'.2.2.2 ≤ R.slots + s0) (kk : jWs p l e R s m args below meth c Q base ca cT D A nL n0 s0 x') : jWs p l e R s m args below meth c Q base ca cT D A nL n0 s0 (pc, L, st, h) := by
  unfold jnewg at he
  split at he
  · rename_i y n r
    split at he
    · rename_i hc
      obtain ⟨c1, c2, c3, c4, c5⟩ := hc
      cases he
      intro hz H locs ls cells slots h1 h2 hl hP hS
      have h1 : cells + n0 = h.length := h1
      have h2 : slots + s0 = jsl h := h2
      have hz : h.length ≤ jK0 := hz
      refine j_sized fun hz9 => ?_
      have hsz := j_size hbase h1 hP hS hz9
      generalize hN : n.toNatClampNeg = N at *
      generalize hM : y.toNatClampNeg = M at *
      generalize hg9 : ((.inr (.inr (1, (List.range N).map (fun i => some (h.length + 1 + i)))) :: List.replicate N (.inr (.inl (0, List.replicate M 0)))) : List jE) = g9 at *
      have hlen : (h ++ g9).length = h.length + (N + 1) := by rw [← hg9]; simp
      have hsl : jsl (h ++ g9) = jsl h + (N + N * M) := by
        rw [jsl_app, ← hg9]
        show jsl h + (jsz (.inr (.inr (1, (List.range N).map (fun i => some (h.length + 1 + i))))) + jsl (List.replicate N (.inr (.inl (0, List.replicate M 0))))) = _
        rw [jsl_rep]
        simp [jsz]
      have r1 : h.length + (N + 1) ≤ R.cells + n0 := by rw [← hlen]; exact hR1
      have r2 : jsl h + (N + N * M) ≤ R.slots + s0 := by rw [← hsl]; exact hR2
      intro T hT X
      obtain ⟨vm₁, cA, comp, -, fA, fC, hO, -, X', step⟩ := X.multianewarray2F hx hown (ty := .int) (index := i) (hts _ (hG _ hf.1)) hK.2.2.2.2.2.2.2.1 (hts _ (hG _ hf.2)) (g := F0 m pc ls (.int y :: .int n :: r.map (jv (jad base ca)))) rfl (by rw [hb]; exact hd) rfl c1 c2 (by omega) (by rw [hM]; show M * 4 ≤ 536870912; omega) (by omega) rfl rfl (by omega) (by rw [hN, hM]; omega)
      rw [hN, hM] at X' step
      have ecA : cA = cT 1 := Option.some.inj (fA.symm.trans (hK.1.2 1 _ rfl).2)
      have eC : comp = cT 0 := Option.some.inj (fC.symm.trans (hK.1.2 0 _ rfl).2)
      subst ecA
      subst eC
      generalize hF : Jvm.Free.Multi.fill (T.setVm vm₁) (cT 1) (cT 0) N M (defaultValue .int) N = F at X' step
      have hTh : (T.setVm vm₁).heap = H := hT
      obtain ⟨f1, f2, -, -⟩ := Jvm.Free.Multi.fill_facts (T.setVm vm₁) (cT 1) (cT 0) N M (defaultValue .int) N
      rw [hF, hTh] at f1 f2
      have o1 : ∀ x : Nat, x < H.size → F.heap[x]? = H[x]? := fun x hx => by
        have := Jvm.Free.Multi.fill_old (T.setVm vm₁) (cT 1) (cT 0) N M (defaultValue .int) (a := x) (by rw [hTh]; exact hx) N
        rw [hF, hTh] at this
        exact this
      have hrow : ∀ j : Nat, j < N → F.heap[H.size + 1 + j]? = some (Jvm.Free.Multi.innerC (cT 0) M (defaultValue .int)) := fun j hj => by
        have := Jvm.Free.Multi.fill_inner (T.setVm vm₁) (cT 1) (cT 0) N M (defaultValue .int) N j hj
        rw [hF, hTh] at this
        exact this
      have hout : Jvm.Free.Multi.outerC (cT 1) N H.size N = vp_cell (cT 1) (N, .inr (.inr (.inr (.inr (fun i => if i < N then some (H.size + 1 + i) else none))))) := by
        rw [vp_cell_q]
        exact vr_outer (cT 1) N H.size N
      rw [hout] at f2
      have hP1 : va_P D vwCl (jw base cT (jad base ca) (h ++ g9)) F.heap := by
        rw [jw_app2]
        refine (hP.kept (fun k x hx9 => o1 x.1 ((hP k x hx9).lt))).app (fun k x hx9 => ?_)
        rw [List.getElem?_mapIdx, ← hg9] at hx9
        cases k with
        | zero =>
          cases hx9
          show F.heap[base + (0 + h.length)]? = some (vp_cell (cT 1) (((List.range N).map (fun i => some (h.length + 1 + i))).length, .inr (.inr (.inr (.inr (fun j => (((List.range N).map (fun i => some (h.length + 1 + i))).getD j none).map (jad base ca)))))))
          rw [Nat.zero_add, ← hsz, f2, List.length_map, List.length_range]
          congr 7
          funext j
          rw [List.getD_eq_getElem?_getD, List.getElem?_map]
          by_cases hj : j < N
          · rw [List.getElem?_range hj, if_pos hj]
            show some (H.size + 1 + j) = some (jad base ca (h.length + 1 + j))
            rw [jad_lt (by omega), hsz]
            congr 1
            omega
          · rw [List.getElem?_eq_none (by rw [List.length_range]; omega), if_neg hj]
            rfl
        | succ k =>
          have hk : k < N := by
            by_cases hk : k < N
            · exact hk
            · rw [List.getElem?_cons_succ, List.getElem?_replicate, if_neg hk] at hx9
              cases hx9
          rw [List.getElem?_cons_succ, List.getElem?_replicate, if_pos hk] at hx9
          cases hx9
          show F.heap[base + (k + 1 + h.length)]? = some (vp_cell (cT 0) ((List.replicate M (0 : Int32)).length, .inl (fun j => (List.replicate M (0 : Int32)).getD j 0)))
          have hfun : (fun j => (List.replicate M (0 : Int32)).getD j 0) = fun _ => 0 := by
            funext j
            rw [List.getD_eq_getElem?_getD, List.getElem?_replicate]
            split <;> rfl
          rw [hfun, List.length_replicate, show base + (k + 1 + h.length) = H.size + 1 + k by omega, hrow k hk]
          congr 1
          show ({ cls := cT 0, slots := Array.replicate M (.int 0), vm := .none } : Cell) = _
          rw [arrV_new, vp_cell_i]
      have hS1 : va_S A s.heap F.heap locs := ⟨Nat.le_trans hS.1 (by omega), fun x q1 q2 => (o1 x (Nat.lt_of_lt_of_le q1 hS.1)).trans (hS.2.1 x q1 q2), hS.2.2⟩
      have k2 := kk (by show (h ++ g9).length ≤ jK0; omega) F.heap locs ls (cells + 1 + N) (slots + N + N * M) (by show _ = (h ++ g9).length; omega) (by show _ = jsl (h ++ g9); omega) hl hP1 hS1
      have k3 : W p l e R s m args below meth c F.heap locs (cells + 1 + N) (slots + N + N * M) Q (F0 m (pc + 4) ls (.ref (jad base ca h.length) :: r.map (jv (jad base ca)))) := k2
      rw [jad_lt (by omega), ← hsz] at k3
      obtain ⟨t9, a1, b1⟩ := k3 F rfl X'
      refine ⟨t9, step t9 ?_, b1⟩
      rw [hT]
      exact a1
    · cases he
  · cases he
theorem js_copy (hx : p.tables.exec = Jvm.exec) (hb : c.code = cc) (hml : c.maxLocals = nL) (hts : ∀ w ∈ Ts, w.before args s = true) (hG : ∀ w ∈ G, w ∈ Ts) (hown : s.vm.findClass own = some m.cls) (hK : jK xs ca cT D A s s.heap) (hA : ∀ q, base ≤ q → A q) (hfr : 1 ≤ R.frames) (hlo : 60 ≤ R.locals) {i : Nat} (hd : decode cc pc = .ok (.invokestatic i, 3)) (hf : Cond.methodLink own i arraycopyName ∈ G ∧ Cond.native arraycopyName ∈ G ∧ Cond.static arraycopyName ∈ G ∧ Cond.initialized "java/lang/System" ∈ G) (he : jcopy (pc + 3) L st h = some (.inl x')) (kk : jWs p l e R s m args below meth c Q base ca cT D A nL n0 s0 x') : jWs p l e R s m args below meth c Q base ca cT D A nL n0 s0 (pc, L, st, h) := by
  obtain ⟨f1, f2, f3, f4⟩ := hf
  unfold jcopy at he
  split at he
  · rename_i n dp d sp q r
    split at he
    · rename_i f g hq hd9
      split at he
      · rename_i hc
        obtain ⟨t0, la⟩ := f
        obtain ⟨t1, lb⟩ := g
        obtain ⟨rfl, rfl, c1, c2, c3, c4, c5, c6⟩ := hc
        have c4 : sp.toNatClampNeg + n.toNatClampNeg ≤ la.length := c4
        have c5 : dp.toNatClampNeg + n.toNatClampNeg ≤ lb.length := c5
        cases he
        intro hz H locs ls cells slots h1 h2 hl hP hS
        show W p l e R s m args below meth c H locs cells slots Q (F0 m pc ls (.int n :: .int dp :: .ref (jad base ca d) :: .int sp :: .ref (jad base ca q) :: r.map (jv (jad base ca))))
        rw [jad_lt (jlt hz hq), jad_lt (jlt hz hd9)]
        refine va_copyi (D := D) (tys := jtys cT) hx hb (hml.trans hl.1.symm) hown (hts _ (hG _ f1)) (hts _ (hG _ f2)) (hts _ (hG _ f3)) (hts _ (hG _ f4)) hK.1 hP (jw_D hA) hS q d 0 0 (jw_get hq) (jw_get hd9) rfl rfl rfl c1 c2 c3 c4 c5 (fun _ _ => rfl) hfr ?_ hd (fun H1 locs1 hP1 _ hS1 => ?_)
        · rw [jv_sum]
          have : nativeFrameWords "java/lang/System" "arraycopy" 5 ≤ 40 := by decide
          omega
        · rw [jcpy_f _ _ _ _ _ c5, show lb.length = (jcpy la lb sp.toNatClampNeg dp.toNatClampNeg n.toNatClampNeg).length by rw [jcpy_len]] at hP1
          have hP2 : va_P D vwCl ((jw base cT (jad base ca) h).set d (base + d, jtr cT (jad base ca) (.inr (.inl (0, jcpy la lb sp.toNatClampNeg dp.toNatClampNeg n.toNatClampNeg))))) H1 := hP1
          rw [jw_set] at hP2
          exact kk (by rw [List.length_set]; exact hz) H1 locs1 ls cells slots (by rw [List.length_set]; exact h1) (by rw [jsl_set hd9 (by simp [jsz, jcpy_len])]; exact h2) hl hP2 hS1
      · cases he
    · cases he
  · cases he
theorem js_tsw (hx : p.tables.exec = Jvm.exec) (hb : c.code = cc) {dflt lo hi : Int} {offs : Array Int} {len : Nat} (hd : decode cc pc = .ok (.tableswitch dflt lo hi offs, len)) (he : jtsw dflt lo hi offs.toList pc L st h = some (.inl x')) (kk : jWs p l e R s m args below meth c Q base ca cT D A nL n0 s0 x') : jWs p l e R s m args below meth c Q base ca cT D A nL n0 s0 (pc, L, st, h) := by
  unfold jtsw at he
  split at he
  · rename_i x r
    split at he
    · rename_i h9
      split at he
      · rename_i h8
        cases he
        exact js_st (t := ((pc : Int) + dflt).toNat) (st' := r) (fun H locs ls cells slots k => lv_tableOut hx hb hd h9 (Int.toNat_of_nonneg h8).symm k) kk
      · cases he
    · rename_i h9
      split at he
      · rename_i o ho
        split at he
        · rename_i h8
          cases he
          exact js_st (t := ((pc : Int) + o).toNat) (st' := r) (fun H locs ls cells slots k => lv_tableIn hx hb hd (fun z => h9 (Or.inl z)) (fun z => h9 (Or.inr z)) (by rw [← Array.getElem?_toList]; exact ho) (Int.toNat_of_nonneg h8).symm k) kk
        · cases he
      · cases he
  · cases he
theorem js_lsw (hx : p.tables.exec = Jvm.exec) (hb : c.code = cc) {dflt : Int} {ps : Array (Int × Int)} {len : Nat} (hd : decode cc pc = .ok (.lookupswitch dflt ps, len)) (he : jlsw dflt ps.toList pc L st h = some (.inl x')) (kk : jWs p l e R s m args below meth c Q base ca cT D A nL n0 s0 x') : jWs p l e R s m args below meth c Q base ca cT D A nL n0 s0 (pc, L, st, h) := by
  unfold jlsw at he
  split at he
  · rename_i x r
    split at he
    · rename_i h9
      cases he
      exact js_st (t := ((pc : Int) + Op.lookupswitch.offset ps.toList dflt x.toInt).toNat) (st' := r) (fun H locs ls cells slots k => lv_lookup hx hb hd h9.1 rfl (Int.toNat_of_nonneg h9.2).symm k) kk
    · cases he
  · cases he
end JB
end
section
/-! calls, and the whole -/
def jPc (xs : List Int32) (base : Nat) (ca : Nat → Nat) (cT : Nat → ClassId) (D : va_G) (A : Nat → Prop) (h : List jE) : State → Prop := fun U => U.heap.size = base + h.length ∧ va_P D vwCl (jw base cT (jad base ca) h) U.heap ∧ jK xs ca cT D A U U.heap
def jQ (base : Nat) (ca : Nat → Nat) (cT : Nat → ClassId) (D : va_G) (A : Nat → Prop) (r : jR) : Array Value → State → Outcome → State → Prop := fun _ st o t => (o = .returned (r.1.map (jv (jad base ca))) ∧ t.heap.size = base + r.2.length ∧ va_P D vwCl (jw base cT (jad base ca) r.2) t.heap) ∧ va_F A st t
def jrm (d : Nat) (h : List jE) (r : jR) : Room := { frames := d, cells := r.2.length - h.length, slots := jsl r.2 - jsl h, locals := 60 * d }
def jMet (l : Launch) (G : List Cond) (xs : List Int32) (base : Nat) (ca : Nat → Nat) (cT : Nat → ClassId) (D : va_G) (A : Nat → Prop) (d : Nat) (q : jM) (vs : List Value) (h : List jE) (r : jR) : Prop :=
  Met l q.2.1 (Cond.code q.2.1 q.2.2.1 q.2.2.2.1 q.2.2.2.2.1 :: G) (jrm d h r) (va_Pc (vs.map (jv (jad base ca))) (jPc xs base ca cT D A h)) (jQ base ca cT D A r) (r.2.length - h.length) (jsl r.2 - jsl h) A
theorem jPc_blind {xs : List Int32} {base : Nat} {ca : Nat → Nat} {cT : Nat → ClassId} {D : va_G} {A : Nat → Prop} {h : List jE} {vs : List Value} : FrameBlind (va_Pc vs (jPc xs base ca cT D A h)) := fun a U g mk q => ⟨q.1, q.2.1, q.2.2.1, jK_blind q.2.2.2⟩
theorem j_goodIn {G Ts : List Cond} {w : Cond} (hG : ∀ w ∈ G, w ∈ Ts) (hg : ∀ w ∈ G, goodWord w = true) (hw : w ∈ G) : GoodIn Ts (w :: G) := fun x hx => by
  rcases List.mem_cons.mp hx with rfl | h
  · exact ⟨hG _ hw, good_of_word (hg _ hw)⟩
  · exact ⟨hG _ h, good_of_word (hg _ h)⟩
/-- what a call of method q by index i of own needs, beside the words that are the kind's own -/
def jcalB (G : List Cond) (q : jM) (n : Nat) : Prop := Cond.code q.2.1 q.2.2.1 q.2.2.2.1 q.2.2.2.2.1 ∈ G ∧ Cond.initialized q.2.1.cls ∈ G ∧ (q.2.1.cls ≠ "java/lang/invoke/MethodHandle" ∧ q.2.1.cls ≠ "java/lang/invoke/VarHandle" ∧ (parseMethodDescriptor q.2.1.desc).map (fun d => d.parameters.length) = some n) ∧ q.2.2.2.1 ≤ 40
def jcalV (G : List Cond) (own : String) (mt : Nat → Option jM) (i a b ci : Nat) : Prop := ∃ (q : jM) (z : vw_C), mt a = some q ∧ vwCl[ci]? = some z ∧ z.1 = q.2.1.cls ∧ jcalB G q (b - 1) ∧ 1 ≤ b ∧ Cond.methodLink own i q.2.1 ∈ G ∧ Cond.instanceMethod q.2.1 ∈ G ∧ Cond.selects q.2.1.cls q.2.1 q.2.1 ∈ G
def jcalK (G : List Cond) (own : String) (mt : Nat → Option jM) (i a b : Nat) : Prop := ∃ q : jM, mt a = some q ∧ q.2.1.cls = "java/lang/String" ∧ jcalB G q (b - 1) ∧ 1 ≤ b ∧ Cond.methodLink own i q.2.1 ∈ G ∧ Cond.instanceMethod q.2.1 ∈ G ∧ Cond.selects q.2.1.cls q.2.1 q.2.1 ∈ G
def jcalS (G : List Cond) (own : String) (mt : Nat → Option jM) (i a b : Nat) : Prop := ∃ q : jM, mt a = some q ∧ jcalB G q b ∧ Cond.methodLink own i q.2.1 ∈ G ∧ Cond.static q.2.1 ∈ G
def jcalI (G : List Cond) (own : String) (mt : Nat → Option jM) (i a b : Nat) : Prop := ∃ q : jM, mt a = some q ∧ jcalB G q (b - 1) ∧ 1 ≤ b ∧ q.2.1.name = "<init>" ∧ q.2.2.2.2.1 = none ∧ Cond.instanceMethod q.2.1 ∈ G ∧ (Cond.methodLink own i q.2.1 ∈ G ∨ ∃ (k : Nat) (host : String), jnest[k]? = some (own, i, q.2.1, host))
section JX
variable {p : Program} {l : Launch} {e : Env} {R : Room} {s : State} {m : MethodId} {args : Array Value} {below : List Frame} {meth : Method} {c : Code} {Q : State → Prop} {base : Nat} {ca : Nat → Nat} {cT : Nat → ClassId} {D : va_G} {A : Nat → Prop} {nL n0 s0 : Nat}
variable {cc : ByteArray} {pc t : Nat} {L : List (Nat × Value)} {st : List Value} {h : List jE} {x' : jC} {G Ts : List Cond} {own : String} {xs : List Int32} {H : Heap} {locs : List Loc} {cells slots : Nat}
theorem j_ret {ls : Array Slot} {st0 rest : List Value} {r : jR} {a : Array Value} {mc ms : Nat} (hr : va_Run p l e R s m args below meth c H locs cells slots mc ms (F0 m pc ls st0) rest (jQ base ca cT D A r a) A) (hS : va_S A s.heap H locs)
    (kk : ∀ (H1 : Heap) (locs1 : List Loc), va_P D vwCl (jw base cT (jad base ca) r.2) H1 → va_S A s.heap H1 locs1 → W p l e R s m args below meth c H1 locs1 (cells + mc) (slots + ms) Q (F0 m (pc + 3) ls ((r.1.map (jv (jad base ca))).toList ++ rest))) : W p l e R s m args below meth c H locs cells slots Q (F0 m pc ls st0) := by
  intro T hT X
  obtain ⟨v, st₀, t, T', L, h0, X', hL, e1, e2, ⟨⟨hv, hsz, hP1⟩, hz, hk⟩, st⟩ := hr T hT X
  cases hv
  rw [h0] at hz hk
  obtain ⟨t2, a1, b1⟩ := kk T'.heap (locs ++ L) (by rw [e1]; exact hP1)
    ⟨Nat.le_trans hS.1 (by rw [e1]; exact hz), fun q h1 h2 => by rw [e1, hk q (Nat.lt_of_lt_of_le h1 hS.1) h2]; exact hS.2.1 q h1 h2, fun q hq => by
      rcases List.mem_append.mp hq with h | h
      · exact hS.2.2 q h
      · exact hL q h⟩ T' rfl X'
  exact ⟨t2, st t2 a1, b1⟩
theorem j_callB {own : String} {q : jM} {i n d : Nat} {r : jR} (hts : ∀ w ∈ Ts, w.before args s = true) (hG : ∀ w ∈ G, w ∈ Ts) (hgd : ∀ w ∈ G, goodWord w = true) (hq : jcalB G q n) (hl : Cond.methodLink own i q.2.1 ∈ G) (hR1 : d + 1 ≤ R.frames) (hR2 : 60 * d + 60 ≤ R.locals) :
    CallB R s args own i q.2.1 q.2.2.1 q.2.2.2.1 q.2.2.2.2.1 (Cond.code q.2.1 q.2.2.1 q.2.2.2.1 q.2.2.2.2.1 :: G) (jrm d h r) (r.2.length - h.length) (jsl r.2 - jsl h) n := by
  obtain ⟨q1, q2, q3, q4⟩ := hq
  exact callB_of n hts (j_goodIn hG hgd q1) rfl rfl rfl (hts _ (hG _ q2)) (hts _ (hG _ hl)) q3 ⟨hR1, by show 8 + (q.2.2.2.1 + 11) + 60 * d ≤ R.locals; omega⟩
/-- the callee's start holds -/
theorem j_pre {U : State} {vs : List Value} (hK : jK xs ca cT D A s s.heap) (hP : va_P D vwCl (jw base cT (jad base ca) h) H) (hS : va_S A s.heap H locs) (hsz : H.size = base + h.length) (hU : U.heap = H) (hW : s.WarmedH U.vm) : va_Pc (vs.map (jv (jad base ca))) (jPc xs base ca cT D A h) ((vs.map (jv (jad base ca))).toArray) U :=
  ⟨rfl, by rw [hU]; exact hsz, by rw [hU]; exact hP, jK_call hK hS hU hW⟩
/-- how a call ends in the interpreter -/
theorem jinv_ret {call : Nat → List Value → List jE → Option jR} {a n t : Nat} (he : jinv call a n t L st h = some (.inl x')) : ∃ r : jR, n ≤ st.length ∧ ((st.drop n).map fun v => v.category).sum ≤ 8 ∧ call a (st.take n).reverse h = some r ∧ x' = (t, L, r.1.toList ++ st.drop n, r.2) := by
  unfold jinv at he
  split at he
  · rename_i hc
    split at he
    · rename_i v h' hr
      cases he
      exact ⟨_, hc.1, hc.2, hr, rfl⟩
    · rename_i h' hr
      cases he
      exact ⟨_, hc.1, hc.2, hr, rfl⟩
    · cases he
  · cases he
theorem jmapO (ad : Nat → Nat) (v : Option Value) (r : List Value) : (v.toList ++ r).map (jv ad) = (v.map (jv ad)).toList ++ r.map (jv ad) := by
  cases v <;> rfl
end JX
end
