section
/-! A RUN OVER RANGES: ints as ranges, longs unknown; references exact. What it finds holds of every run within the ranges. -/
abbrev aI : Type := Int × Int
abbrev aV : Type := aI ⊕ Option Value
abbrev aE : Type := (Nat × List aV) ⊕ ((Nat × List aI) ⊕ (Nat × List (Option Nat)))
abbrev aC : Type := Nat × List (Nat × aV) × List aV × List aE
abbrev aR : Type := Option aV × List aE
abbrev aO : Type := Option (aC ⊕ aR)
def aT : aI := (-2147483648, 2147483647)
def aN (l h : Int) : aI := bif decide (-2147483648 ≤ l) && decide (h ≤ 2147483647) then (l, h) else aT
def aK (n : Int) : aI := (n, n)
def aX (X : aI) : Bool := X.1 == X.2
def aadd (X Y : aI) : aI := aN (X.1 + Y.1) (X.2 + Y.2)
def asub (X Y : aI) : aI := aN (X.1 - Y.2) (X.2 - Y.1)
def aneg (X : aI) : aI := aN (-X.2) (-X.1)
def amul (X Y : aI) : aI := bif aX X && aX Y then aN (X.1 * Y.1) (X.1 * Y.1) else aT
def aop (f : Int32 → Int32 → Int32) (X Y : aI) : aI := bif aX X && aX Y then aK (f (Int32.ofInt X.1) (Int32.ofInt Y.1)).toInt else aT
def aop1 (f : Int32 → Int32) (X : aI) : aI := bif aX X then aK (f (Int32.ofInt X.1)).toInt else aT
def aeq (X Y : aI) : Option Bool := bif decide (X.2 < Y.1) || decide (Y.2 < X.1) then some false else bif aX X && (aX Y && decide (X.1 = Y.1)) then some true else none
def alt (X Y : aI) : Option Bool := bif decide (X.2 < Y.1) then some true else bif decide (Y.2 ≤ X.1) then some false else none
def acond (c : ClassFile.Cond) (X Y : aI) : Option Bool := match c with
  | .eq => aeq X Y
  | .ne => (aeq X Y).map not
  | .lt => alt X Y
  | .ge => (alt X Y).map not
  | .gt => alt Y X
  | .le => (alt Y X).map not
def agv : List (Nat × aV) → Nat → Option aV
  | [], _ => none
  | q :: r, i => bif q.1 == i then some q.2 else agv r i
def acat : aV → Nat
  | .inl _ => 1
  | .inr none => 2
  | .inr (some v) => v.category
def aput (L : List (Nat × aV)) (i : Nat) (v : aV) : List (Nat × aV) := (i, v) :: L.filter (fun q => !(q.1 == i) && !(q.1 + 1 == i && acat q.2 == 2))
def aput2 (L : List (Nat × aV)) (i : Nat) (v : aV) : List (Nat × aV) := (i, v) :: L.filter (fun q => !(q.1 == i) && (!(q.1 == i + 1) && !(q.1 + 1 == i && acat q.2 == 2)))
/-- an exact place -/
def aix (X : aI) : Option Nat := bif aX X && decide (0 ≤ X.1) then some X.1.toNat else none
def ago (t : Nat) (L : List (Nat × aV)) (st : List aV) (h : List aE) : aO := some (.inl (t, L, st, h))
def aref (i : Nat) : aV := .inr (some (.ref i))
def aloadI (L : List (Nat × aV)) (i t : Nat) (st : List aV) (h : List aE) : aO := match agv L i with
  | some (.inl x) => ago t L (.inl x :: st) h
  | _ => none
def aloadL (L : List (Nat × aV)) (i t : Nat) (st : List aV) (h : List aE) : aO := match agv L i with
  | some (.inr none) => ago t L (.inr none :: st) h
  | _ => none
def aloadA (L : List (Nat × aV)) (i t : Nat) (st : List aV) (h : List aE) : aO := match agv L i with
  | some (.inr (some (.ref x))) => ago t L (aref x :: st) h
  | _ => none
def astoreI (nL : Nat) (L : List (Nat × aV)) (i t : Nat) (st : List aV) (h : List aE) : aO := match st with
  | .inl x :: r => bif Nat.blt i nL then ago t (aput L i (.inl x)) r h else none
  | _ => none
def astoreA (nL : Nat) (L : List (Nat × aV)) (i t : Nat) (st : List aV) (h : List aE) : aO := match st with
  | .inr (some (.ref x)) :: r => bif Nat.blt i nL then ago t (aput L i (aref x)) r h else none
  | _ => none
def astoreL (nL : Nat) (L : List (Nat × aV)) (i t : Nat) (st : List aV) (h : List aE) : aO := match st with
  | .inr none :: r => bif Nat.blt (i + 1) nL then ago t (aput2 L i (.inr none)) r h else none
  | _ => none
def abin (f : aI → aI → aI) (t : Nat) (L : List (Nat × aV)) (st : List aV) (h : List aE) : aO := match st with
  | .inl y :: .inl x :: r => ago t L (.inl (f x y) :: r) h
  | _ => none
def aun (f : aI → aI) (t : Nat) (L : List (Nat × aV)) (st : List aV) (h : List aE) : aO := match st with
  | .inl x :: r => ago t L (.inl (f x) :: r) h
  | _ => none
def abinL (t : Nat) (L : List (Nat × aV)) (st : List aV) (h : List aE) : aO := match st with
  | .inr none :: .inr none :: r => ago t L (.inr none :: r) h
  | _ => none
def ashL (t : Nat) (L : List (Nat × aV)) (st : List aV) (h : List aE) : aO := match st with
  | .inl _ :: .inr none :: r => ago t L (.inr none :: r) h
  | _ => none
def aints (cs : Nat → Option (List aI)) (h : List aE) (i : Nat) : Option (List aI) := bif Nat.blt i jK0 then (match h[i]? with
  | some (.inr (.inl a)) => bif a.1 == 0 then some a.2 else none
  | _ => none) else cs (i - jK0)
def aiald (cs : Nat → Option (List aI)) (t : Nat) (L : List (Nat × aV)) (st : List aV) (h : List aE) : aO := match st with
  | .inl j :: .inr (some (.ref i)) :: r => match aix j with
    | some k => match aints cs h i with
      | some l => match l[k]? with
        | some x => ago t L (.inl x :: r) h
        | none => none
      | none => none
    | none => none
  | _ => none
def aiast (t : Nat) (L : List (Nat × aV)) (st : List aV) (h : List aE) : aO := match st with
  | .inl x :: .inl j :: .inr (some (.ref i)) :: r => match aix j with
    | some k => match h[i]? with
      | some (.inr (.inl a)) => bif a.1 == 0 && Nat.blt k a.2.length then ago t L r (h.set i (.inr (.inl (0, a.2.set k x)))) else none
      | _ => none
    | none => none
  | _ => none
def aaald (t : Nat) (L : List (Nat × aV)) (st : List aV) (h : List aE) : aO := match st with
  | .inl j :: .inr (some (.ref i)) :: r => match aix j with
    | some k => match h[i]? with
      | some (.inr (.inr a)) => bif a.1 == 1 || (a.1 == 2 || a.1 == 3) then (match a.2[k]? with
        | some (some q) => ago t L (aref q :: r) h
        | _ => none) else none
      | _ => none
    | none => none
  | _ => none
def amay (h : List aE) (k q : Nat) : Bool := bif k == 3 then Nat.ble (jK0 + 10) q && Nat.blt q (jK0 + 17) else bif k == 2 then (match h[q]? with
  | some (.inl o) => o.1 == 4
  | _ => false) else false
def aaast (t : Nat) (L : List (Nat × aV)) (st : List aV) (h : List aE) : aO := match st with
  | .inr (some (.ref q)) :: .inl j :: .inr (some (.ref i)) :: r => match aix j with
    | some k => match h[i]? with
      | some (.inr (.inr a)) => bif amay h a.1 q && Nat.blt k a.2.length then ago t L r (h.set i (.inr (.inr (a.1, a.2.set k (some q))))) else none
      | _ => none
    | none => none
  | _ => none
def aalen (cs : Nat → Option (List aI)) (t : Nat) (L : List (Nat × aV)) (st : List aV) (h : List aE) : aO := match st with
  | .inr (some (.ref i)) :: r => match aints cs h i with
    | some l => ago t L (.inl (aK (Int32.ofNat l.length).toInt) :: r) h
    | none => none
  | _ => none
def agetf (ci k t : Nat) (L : List (Nat × aV)) (st : List aV) (h : List aE) : aO := match st with
  | .inr (some (.ref i)) :: r => match h[i]? with
    | some (.inl o) => bif o.1 == ci then (match o.2[k]? with
      | some v => ago t L (v :: r) h
      | none => none) else none
    | _ => none
  | _ => none
def afit (ty : Nat) (v : aV) : Bool := match v with
  | .inl X => ty == 0 || (ty == 1 && (decide (0 ≤ X.1) && decide (X.2 ≤ 1)))
  | .inr (some (.ref _)) => ty == 2
  | _ => false
def aputf (ci k ty t : Nat) (L : List (Nat × aV)) (st : List aV) (h : List aE) : aO := match st with
  | v :: .inr (some (.ref i)) :: r => match h[i]? with
    | some (.inl o) => bif o.1 == ci && (Nat.blt k o.2.length && afit ty v) then ago t L r (h.set i (.inl (ci, o.2.set k v))) else none
    | _ => none
  | _ => none
def aof : Value → aV
  | .int x => .inl (aK x.toInt)
  | .long _ => .inr none
  | v => .inr (some v)
def anew (ci t : Nat) (dfl : List Value) (L : List (Nat × aV)) (st : List aV) (h : List aE) : aO := bif Nat.blt h.length jK0 then ago t L (aref h.length :: st) (h ++ [.inl (ci, dfl.map aof)]) else none
def anewa (t : Nat) (L : List (Nat × aV)) (st : List aV) (h : List aE) : aO := match st with
  | .inl n :: r => match aix n with
    | some k => bif Nat.ble k 100000 && Nat.blt h.length jK0 then ago t L (aref h.length :: r) (h ++ [.inr (.inl (0, List.replicate k (0, 0)))]) else none
    | none => none
  | _ => none
def anewq (z t : Nat) (L : List (Nat × aV)) (st : List aV) (h : List aE) : aO := match st with
  | .inl n :: r => match aix n with
    | some k => bif Nat.ble k 100000 && Nat.blt h.length jK0 then ago t L (aref h.length :: r) (h ++ [.inr (.inr (z, List.replicate k none))]) else none
    | none => none
  | _ => none
def anewg (z t : Nat) (L : List (Nat × aV)) (st : List aV) (h : List aE) : aO := match st with
  | .inl y :: .inl n :: r => match aix n, aix y with
    | some k, some j => bif Nat.ble k 1000 && (Nat.ble j 1000 && Nat.blt (h.length + 1 + k) jK0) then ago t L (aref h.length :: r) (h ++ (.inr (.inr (z, (List.range k).map (fun i => some (h.length + 1 + i)))) :: List.replicate k (.inr (.inl (0, List.replicate j (0, 0)))))) else none
    | _, _ => none
  | _ => none
def ainv (call : Nat → List aV → List aE → Option aR) (a n t : Nat) (L : List (Nat × aV)) (st : List aV) (h : List aE) : aO := bif Nat.ble n st.length && Nat.ble ((st.drop n).map acat).sum 8 then (match call a (st.take n).reverse h with
  | some (some v, h') => ago t L (v :: st.drop n) h'
  | some (none, h') => ago t L (st.drop n) h'
  | none => none) else none
def ainvV (call : Nat → List aV → List aE → Option aR) (a n ci t : Nat) (L : List (Nat × aV)) (st : List aV) (h : List aE) : aO := match (st.take n).reverse with
  | .inr (some (.ref i)) :: _ => match h[i]? with
    | some (.inl o) => bif o.1 == ci then ainv call a n t L st h else none
    | _ => none
  | _ => none
def ainvI (call : Nat → List aV → List aE → Option aR) (a n t : Nat) (L : List (Nat × aV)) (st : List aV) (h : List aE) : aO := match (st.take n).reverse with
  | .inr (some (.ref _)) :: _ => ainv call a n t L st h
  | _ => none
def acpy (f g : List aI) (sp dp n : Nat) : List aI := (List.range g.length).map (fun k => if dp ≤ k ∧ k < dp + n then f.getD (sp + (k - dp)) (0, 0) else g.getD k (0, 0))
def acopy (t : Nat) (L : List (Nat × aV)) (st : List aV) (h : List aE) : aO := match st with
  | .inl n :: .inl dp :: .inr (some (.ref d)) :: .inl sp :: .inr (some (.ref q)) :: r => match aix n, aix dp, aix sp with
    | some n, some dp, some sp => match h[q]?, h[d]? with
      | some (.inr (.inl f)), some (.inr (.inl g)) => bif f.1 == 0 && (g.1 == 0 && (Nat.ble (sp + n) f.2.length && (Nat.ble (dp + n) g.2.length && Nat.ble (r.map acat).sum 8))) then ago t L r (h.set d (.inr (.inl (0, acpy f.2 g.2 sp dp n)))) else none
      | _, _ => none
    | _, _, _ => none
  | _ => none
def atsw (dflt lo hi : Int) (offs : List Int) (pc : Nat) (L : List (Nat × aV)) (st : List aV) (h : List aE) : aO := match st with
  | .inl x :: r => bif decide (x.2 < lo) || decide (hi < x.1) then (bif decide (0 ≤ (pc : Int) + dflt) then ago ((pc : Int) + dflt).toNat L r h else none) else bif aX x && (decide (lo ≤ x.1) && decide (x.1 ≤ hi)) then (match offs[(x.1 - lo).toNat]? with
    | some o => bif decide (0 ≤ (pc : Int) + o) then ago ((pc : Int) + o).toNat L r h else none
    | none => none) else none
  | _ => none
def alsw (dflt : Int) (ps : List (Int × Int)) (pc : Nat) (L : List (Nat × aV)) (st : List aV) (h : List aE) : aO := match st with
  | .inl x :: r => bif aX x && ((ps.zip (ps.drop 1)).all (fun (a, next) => a.1 < next.1) && decide (0 ≤ (pc : Int) + Op.lookupswitch.offset ps dflt x.1)) then ago ((pc : Int) + Op.lookupswitch.offset ps dflt x.1).toNat L r h else none
  | _ => none
def aret (ret : Option FieldType) (st : List aV) (h : List aE) : aO := match st with
  | [.inl v] => match ret with
    | some .int => some (.inr (some (.inl v), h))
    | some .boolean => bif decide (0 ≤ v.1) && decide (v.2 ≤ 1) then some (.inr (some (.inl v), h)) else none
    | _ => none
  | _ => none
def aretA (ret : Option FieldType) (st : List aV) (h : List aE) : aO := match st with
  | [.inr (some (.ref v))] => match ret with
    | some (.object _) => some (.inr (some (aref v), h))
    | _ => none
  | _ => none
def aretL (ret : Option FieldType) (st : List aV) (h : List aE) : aO := match st with
  | [.inr none] => match ret with
    | some .long => some (.inr (some (.inr none), h))
    | _ => none
  | _ => none
def aretV (ret : Option FieldType) (st : List aV) (h : List aE) : aO := match st with
  | [] => match ret with
    | none => some (.inr (none, h))
    | _ => none
  | _ => none
def aif (c : ClassFile.Cond) (a t : Nat) (L : List (Nat × aV)) (st : List aV) (h : List aE) : aO := match st with
  | .inl x :: r => match acond c x (0, 0) with
    | some true => ago a L r h
    | some false => ago t L r h
    | none => none
  | _ => none
def aicmp (c : ClassFile.Cond) (a t : Nat) (L : List (Nat × aV)) (st : List aV) (h : List aE) : aO := match st with
  | .inl y :: .inl x :: r => match acond c x y with
    | some true => ago a L r h
    | some false => ago t L r h
    | none => none
  | _ => none
def aexec (cs : Nat → Option (List aI)) (call : Nat → List aV → List aE → Option aR) (nL : Nat) (ret : Option FieldType) (x : jI) (pc : Nat) (L : List (Nat × aV)) (st : List aV) (h : List aE) : aO := match x with
  | (ins, _, a, b, c, k) => match ins with
    | .iconst n => ago (pc + 1) L (.inl (aK (Int32.ofInt n).toInt) :: st) h
    | .bipush n => ago (pc + 2) L (.inl (aK (Int8.ofInt n).toInt32.toInt) :: st) h
    | .sipush n => ago (pc + 3) L (.inl (aK (Int16.ofInt n).toInt32.toInt) :: st) h
    | .lconst _ => ago (pc + 1) L (.inr none :: st) h
    | .ldc _ => bif a == 0 then ago (pc + 2) L (.inl (aK k.toInt32.toInt) :: st) h else ago (pc + 2) L (aref (jK0 + b) :: st) h
    | .ldc_w _ => ago (pc + 3) L (.inl (aK k.toInt32.toInt) :: st) h
    | .ldc2_w _ => ago (pc + 3) L (.inr none :: st) h
    | .iload_n i => aloadI L i (pc + 1) st h
    | .iload i => aloadI L i (pc + 2) st h
    | .lload_n i => aloadL L i (pc + 1) st h
    | .lload i => aloadL L i (pc + 2) st h
    | .aload_n i => aloadA L i (pc + 1) st h
    | .aload i => aloadA L i (pc + 2) st h
    | .istore_n i => astoreI nL L i (pc + 1) st h
    | .istore i => astoreI nL L i (pc + 2) st h
    | .astore_n i => astoreA nL L i (pc + 1) st h
    | .astore i => astoreA nL L i (pc + 2) st h
    | .lstore_n i => astoreL nL L i (pc + 1) st h
    | .lstore i => astoreL nL L i (pc + 2) st h
    | .iinc i n => match agv L i with
      | some (.inl x) => bif Nat.blt i nL then ago (pc + 3) (aput L i (.inl (aadd x (aK (Int32.ofInt n).toInt)))) st h else none
      | _ => none
    | .iadd => abin aadd (pc + 1) L st h
    | .isub => abin asub (pc + 1) L st h
    | .imul => abin amul (pc + 1) L st h
    | .iand => abin (aop (fun x y => x &&& y)) (pc + 1) L st h
    | .ior => abin (aop (fun x y => x ||| y)) (pc + 1) L st h
    | .ixor => abin (aop (fun x y => x ^^^ y)) (pc + 1) L st h
    | .ishl => abin (aop (fun x y => x <<< (y &&& 31))) (pc + 1) L st h
    | .ishr => abin (aop (fun x y => x >>> (y &&& 31))) (pc + 1) L st h
    | .iushr => abin (aop (fun x y => (x.toUInt32 >>> (y.toUInt32 &&& Int32.toUInt32 31)).toInt32)) (pc + 1) L st h
    | .iaload => aiald cs (pc + 1) L st h
    | .iastore => aiast (pc + 1) L st h
    | .aaload => aaald (pc + 1) L st h
    | .aastore => aaast (pc + 1) L st h
    | .arraylength => aalen cs (pc + 1) L st h
    | .ineg => aun aneg (pc + 1) L st h
    | .i2b => aun (aop1 (fun x => x.toInt8.toInt32)) (pc + 1) L st h
    | .i2s => aun (aop1 (fun x => x.toInt16.toInt32)) (pc + 1) L st h
    | .i2c => aun (aop1 (fun x => (x.toUInt32 % 65536).toInt32)) (pc + 1) L st h
    | .ladd => abinL (pc + 1) L st h
    | .lmul => abinL (pc + 1) L st h
    | .land => abinL (pc + 1) L st h
    | .lor => abinL (pc + 1) L st h
    | .lshl => ashL (pc + 1) L st h
    | .lshr => ashL (pc + 1) L st h
    | .lushr => ashL (pc + 1) L st h
    | .i2l => match st with
      | .inl _ :: r => ago (pc + 1) L (.inr none :: r) h
      | _ => none
    | .l2i => match st with
      | .inr none :: r => ago (pc + 1) L (.inl aT :: r) h
      | _ => none
    | .idiv => match st with
      | .inl y :: .inl x :: r => bif decide (0 < y.1) || decide (y.2 < 0) then ago (pc + 1) L (.inl (aop (fun x y => x / y) x y) :: r) h else none
      | _ => none
    | .irem => match st with
      | .inl y :: .inl x :: r => bif decide (0 < y.1) || decide (y.2 < 0) then ago (pc + 1) L (.inl (aop (fun x y => x - x / y * y) x y) :: r) h else none
      | _ => none
    | .dup => match st with
      | .inl x :: r => ago (pc + 1) L (.inl x :: .inl x :: r) h
      | .inr (some (.ref x)) :: r => ago (pc + 1) L (aref x :: aref x :: r) h
      | _ => none
    | .pop => match st with
      | .inl _ :: r => ago (pc + 1) L r h
      | .inr (some (.ref _)) :: r => ago (pc + 1) L r h
      | _ => none
    | .dup2 => match st with
      | .inl y :: .inr (some (.ref x)) :: r => ago (pc + 1) L (.inl y :: aref x :: .inl y :: aref x :: r) h
      | .inl y :: .inl x :: r => ago (pc + 1) L (.inl y :: .inl x :: .inl y :: .inl x :: r) h
      | _ => none
    | .goto _ => ago a L st h
    | .ifCond q _ => aif q a (pc + 3) L st h
    | .if_icmp q _ => aicmp q a (pc + 3) L st h
    | .tableswitch d lo hi offs => atsw d lo hi offs.toList pc L st h
    | .lookupswitch d ps => alsw d ps.toList pc L st h
    | .getfield _ => bif c == 9 then none else agetf a b (pc + 3) L st h
    | .putfield _ => aputf a b c (pc + 3) L st h
    | .getstatic _ => bif b == 9 then none else ago (pc + 3) L (aref (jK0 + a) :: st) h
    | .new _ => anew a (pc + 3) (jdf a) L st h
    | .newarray _ => anewa (pc + 2) L st h
    | .anewarray _ => anewq a (pc + 3) L st h
    | .multianewarray _ _ => anewg 1 (pc + 4) L st h
    | .invokevirtual _ => bif k == 9 then none else ainvV call a b c (pc + 3) L st h
    | .invokespecial _ => bif c == 1 then (match st with
      | .inr (some (.ref _)) :: r => bif Nat.ble (r.map acat).sum 8 then ago (pc + 3) L r h else none
      | _ => none) else ainvI call a b (pc + 3) L st h
    | .invokestatic _ => bif c == 1 then acopy (pc + 3) L st h else ainv call a b (pc + 3) L st h
    | .ireturn => aret ret st h
    | .areturn => aretA ret st h
    | .return_ => aretV ret st h
    | .lreturn => aretL ret st h
    | _ => none
def arun (cs : Nat → Option (List aI)) (call : Nat → List aV → List aE → Option aR) (nL : Nat) (ret : Option FieldType) (tab : Nat → Option jI) : Nat → aC → Option aR
  | 0, _ => none
  | f + 1, c => match tab c.1 with
    | none => none
    | some x => match aexec cs call nL ret x c.1 c.2.1 c.2.2.1 c.2.2.2 with
      | none => none
      | some (.inl c') => arun cs call nL ret tab f c'
      | some (.inr r) => some r
def asl (vs : List aV) : Nat := (vs.map acat).sum
def aargs : Nat → List aV → List (Nat × aV)
  | _, [] => []
  | i, v :: vs => (i, v) :: aargs (if acat v = 2 then i + 2 else i + 1) vs
def acall (mt : Nat → Option jM) (cs : Nat → Option (List aI)) (F : Nat) : Nat → Nat → List aV → List aE → Option aR
  | 0, _, _, _ => none
  | d + 1, a, vs, h => match mt a with
    | none => none
    | some q => bif vs.length == q.2.2.2.2.2.1 && Nat.ble (asl vs) q.2.2.2.1 then (bif a == 264 then none else arun cs (acall mt cs F d) q.2.2.2.1 q.2.2.2.2.1 q.1 F (0, aargs 0 vs, [], h)) else none
end
section
/-! the ranges hold -/
def jF2 {α β : Type} (R : α → β → Prop) : List α → List β → Prop
  | [], [] => True
  | a :: as, b :: bs => R a b ∧ jF2 R as bs
  | _, _ => False
section F2
variable {α β : Type} {R : α → β → Prop}
theorem f2_len : ∀ {as : List α} {bs : List β}, jF2 R as bs → as.length = bs.length
  | [], [], _ => rfl
  | a :: as, b :: bs, h => by rw [List.length_cons, List.length_cons, f2_len h.2]
  | [], b :: bs, h => by cases h
  | a :: as, [], h => by cases h
theorem f2_get : ∀ {as : List α} {bs : List β}, jF2 R as bs → ∀ {i : Nat} {a : α}, as[i]? = some a → ∃ b, bs[i]? = some b ∧ R a b
  | [], [], _, i, a, h => by cases h
  | x :: as, y :: bs, h, 0, a, e => by
    cases e
    exact ⟨y, rfl, h.1⟩
  | x :: as, y :: bs, h, i + 1, a, e => f2_get (as := as) (bs := bs) h.2 (i := i) e
  | [], b :: bs, h, _, _, _ => by cases h
  | a :: as, [], h, _, _, _ => by cases h
theorem f2_set : ∀ {as : List α} {bs : List β}, jF2 R as bs → ∀ {i : Nat} {a : α} {b : β}, R a b → jF2 R (as.set i a) (bs.set i b)
  | [], [], _, i, _, _, _ => trivial
  | x :: as, y :: bs, h, 0, a, b, e => ⟨e, h.2⟩
  | x :: as, y :: bs, h, i + 1, a, b, e => ⟨h.1, f2_set (as := as) (bs := bs) h.2 (i := i) e⟩
  | [], b :: bs, h, _, _, _, _ => by cases h
  | a :: as, [], h, _, _, _, _ => by cases h
theorem f2_app : ∀ {as : List α} {bs : List β} {cs : List α} {ds : List β}, jF2 R as bs → jF2 R cs ds → jF2 R (as ++ cs) (bs ++ ds)
  | [], [], _, _, _, h2 => h2
  | x :: as, y :: bs, _, _, h, h2 => ⟨h.1, f2_app (as := as) (bs := bs) h.2 h2⟩
  | [], b :: bs, _, _, h, _ => by cases h
  | a :: as, [], _, _, h, _ => by cases h
theorem f2_take : ∀ (n : Nat) {as : List α} {bs : List β}, jF2 R as bs → jF2 R (as.take n) (bs.take n)
  | 0, _, _, _ => by
    rw [List.take_zero, List.take_zero]
    exact trivial
  | n + 1, [], [], _ => trivial
  | n + 1, x :: as, y :: bs, h => ⟨h.1, f2_take n (as := as) (bs := bs) h.2⟩
  | n + 1, [], b :: bs, h => by cases h
  | n + 1, a :: as, [], h => by cases h
theorem f2_drop : ∀ (n : Nat) {as : List α} {bs : List β}, jF2 R as bs → jF2 R (as.drop n) (bs.drop n)
  | 0, _, _, h => h
  | n + 1, [], [], _ => trivial
  | n + 1, x :: as, y :: bs, h => f2_drop n (as := as) (bs := bs) h.2
  | n + 1, [], b :: bs, h => by cases h
  | n + 1, a :: as, [], h => by cases h
theorem f2_rev : ∀ {as : List α} {bs : List β}, jF2 R as bs → jF2 R as.reverse bs.reverse
  | [], [], _ => trivial
  | x :: as, y :: bs, h => by
    rw [List.reverse_cons, List.reverse_cons]
    exact f2_app (f2_rev (as := as) (bs := bs) h.2) ⟨h.1, trivial⟩
  | [], b :: bs, h => by cases h
  | a :: as, [], h => by cases h
theorem f2_rep {a : α} {b : β} (h : R a b) : ∀ n : Nat, jF2 R (List.replicate n a) (List.replicate n b)
  | 0 => trivial
  | n + 1 => ⟨h, f2_rep h n⟩
theorem f2_map {γ : Type} {f : γ → α} {g : γ → β} : ∀ (l : List γ), (∀ x ∈ l, R (f x) (g x)) → jF2 R (l.map f) (l.map g)
  | [], _ => trivial
  | x :: l, h => ⟨h x List.mem_cons_self, f2_map l (fun y hy => h y (List.mem_cons_of_mem _ hy))⟩
end F2
def gI (X : aI) (x : Int32) : Prop := X.1 ≤ x.toInt ∧ x.toInt ≤ X.2
def gV (X : aV) (v : Value) : Prop := match X with
  | .inl X => match v with
    | .int x => gI X x
    | _ => False
  | .inr none => match v with
    | .long _ => True
    | _ => False
  | .inr (some w) => (∃ i, w = .ref i ∨ w = .null) ∧ v = w
def gL (a : Nat × aV) (b : Nat × Value) : Prop := a.1 = b.1 ∧ gV a.2 b.2
def gE (a : aE) (e : jE) : Prop := match a with
  | .inl o => match e with
    | .inl p => o.1 = p.1 ∧ jF2 gV o.2 p.2
    | _ => False
  | .inr (.inl o) => match e with
    | .inr (.inl p) => o.1 = p.1 ∧ jF2 gI o.2 p.2
    | _ => False
  | .inr (.inr o) => e = .inr (.inr o)
def gC (a : aC) (c : jC) : Prop := a.1 = c.1 ∧ jF2 gL a.2.1 c.2.1 ∧ jF2 gV a.2.2.1 c.2.2.1 ∧ jF2 gE a.2.2.2 c.2.2.2
def gRo (a : Option aV) (r : Option Value) : Prop := match a with
  | none => r = none
  | some X => ∃ v, r = some v ∧ gV X v
def gR (a : aR) (r : jR) : Prop := gRo a.1 r.1 ∧ jF2 gE a.2 r.2
def gO (a : aC ⊕ aR) (o : jC ⊕ jR) : Prop := match a with
  | .inl a => match o with
    | .inl c => gC a c
    | _ => False
  | .inr a => match o with
    | .inr r => gR a r
    | _ => False
theorem gI_T (x : Int32) : gI aT x := by
  have h1 := x.le_toInt
  have h2 := x.toInt_lt
  refine ⟨?_, ?_⟩
  · show (-2147483648 : Int) ≤ x.toInt
    omega
  · show x.toInt ≤ (2147483647 : Int)
    omega
theorem gI_K (x : Int32) : gI (aK x.toInt) x := ⟨Int.le_refl _, Int.le_refl _⟩
theorem gI_N {l h : Int} {x : Int32} (h1 : -2147483648 ≤ l → h ≤ 2147483647 → gI (l, h) x) : gI (aN l h) x := by
  unfold aN
  cases hb : (decide (-2147483648 ≤ l) && decide (h ≤ 2147483647)) with
  | false => exact gI_T x
  | true =>
    rw [Bool.and_eq_true, decide_eq_true_eq, decide_eq_true_eq] at hb
    exact h1 hb.1 hb.2
theorem aX_eq {X : aI} (h : aX X = true) : X.1 = X.2 := eq_of_beq h
theorem gI_ex {X : aI} {x : Int32} (h : aX X = true) (g : gI X x) : x.toInt = X.1 ∧ Int32.ofInt X.1 = x := by
  have e := aX_eq h
  have e2 : x.toInt = X.1 := by
    have h1 := g.1
    have h2 := g.2
    omega
  exact ⟨e2, by rw [← e2]; exact Int32.ofInt_toInt x⟩
theorem jbm {z : Int} (h1 : -2147483648 ≤ z) (h2 : z ≤ 2147483647) : z.bmod (2 ^ 32) = z := by
  apply Int.bmod_eq_of_le <;> omega
theorem g_add {X Y : aI} {x y : Int32} (hx : gI X x) (hy : gI Y y) : gI (aadd X Y) (x + y) := gI_N fun h1 h2 => by
  obtain ⟨a1, a2⟩ := hx
  obtain ⟨b1, b2⟩ := hy
  have e : (x + y).toInt = x.toInt + y.toInt := by
    rw [Int32.toInt_add]
    exact jbm (by omega) (by omega)
  exact ⟨by rw [e]; show X.1 + Y.1 ≤ _; omega, by rw [e]; show _ ≤ X.2 + Y.2; omega⟩
theorem g_sub {X Y : aI} {x y : Int32} (hx : gI X x) (hy : gI Y y) : gI (asub X Y) (x - y) := gI_N fun h1 h2 => by
  obtain ⟨a1, a2⟩ := hx
  obtain ⟨b1, b2⟩ := hy
  have e : (x - y).toInt = x.toInt - y.toInt := by
    rw [Int32.toInt_sub]
    exact jbm (by omega) (by omega)
  exact ⟨by rw [e]; show X.1 - Y.2 ≤ _; omega, by rw [e]; show _ ≤ X.2 - Y.1; omega⟩
theorem g_neg {X : aI} {x : Int32} (hx : gI X x) : gI (aneg X) (-x) := gI_N fun h1 h2 => by
  obtain ⟨a1, a2⟩ := hx
  have e : (-x).toInt = -x.toInt := by
    rw [Int32.toInt_neg]
    exact jbm (by omega) (by omega)
  exact ⟨by rw [e]; show -X.2 ≤ _; omega, by rw [e]; show _ ≤ -X.1; omega⟩
theorem g_mul {X Y : aI} {x y : Int32} (hx : gI X x) (hy : gI Y y) : gI (amul X Y) (x * y) := by
  unfold amul
  cases hb : (aX X && aX Y) with
  | false => exact gI_T _
  | true =>
    rw [Bool.and_eq_true] at hb
    obtain ⟨e1, -⟩ := gI_ex hb.1 hx
    obtain ⟨e2, -⟩ := gI_ex hb.2 hy
    refine gI_N fun h1 h2 => ?_
    have e : (x * y).toInt = X.1 * Y.1 := by
      rw [Int32.toInt_mul, e1, e2]
      exact jbm h1 h2
    exact ⟨by rw [e]; exact Int.le_refl _, by rw [e]; exact Int.le_refl _⟩
theorem g_op (f : Int32 → Int32 → Int32) {X Y : aI} {x y : Int32} (hx : gI X x) (hy : gI Y y) : gI (aop f X Y) (f x y) := by
  unfold aop
  cases hb : (aX X && aX Y) with
  | false => exact gI_T _
  | true =>
    rw [Bool.and_eq_true] at hb
    rw [(gI_ex hb.1 hx).2, (gI_ex hb.2 hy).2]
    exact gI_K _
theorem g_op1 (f : Int32 → Int32) {X : aI} {x : Int32} (hx : gI X x) : gI (aop1 f X) (f x) := by
  unfold aop1
  cases hb : aX X with
  | false => exact gI_T _
  | true =>
    rw [(gI_ex hb hx).2]
    exact gI_K _
theorem g_eq {X Y : aI} {x y : Int32} (hx : gI X x) (hy : gI Y y) {b : Bool} (h : aeq X Y = some b) : decide (x = y) = b := by
  obtain ⟨a1, a2⟩ := hx
  obtain ⟨b1, b2⟩ := hy
  unfold aeq at h
  cases hb : (decide (X.2 < Y.1) || decide (Y.2 < X.1)) with
  | true =>
    rw [hb] at h
    cases h
    rw [Bool.or_eq_true, decide_eq_true_eq, decide_eq_true_eq] at hb
    refine decide_eq_false fun e => ?_
    subst e
    omega
  | false =>
    rw [hb, cond_false] at h
    cases hc : (aX X && (aX Y && decide (X.1 = Y.1))) with
    | false => rw [hc] at h; cases h
    | true =>
      rw [hc] at h
      cases h
      rw [Bool.and_eq_true, Bool.and_eq_true, decide_eq_true_eq] at hc
      obtain ⟨-, e1⟩ := gI_ex hc.1 ⟨a1, a2⟩
      obtain ⟨-, e2⟩ := gI_ex hc.2.1 ⟨b1, b2⟩
      exact decide_eq_true (by rw [← e1, ← e2, hc.2.2])
theorem g_lt {X Y : aI} {x y : Int32} (hx : gI X x) (hy : gI Y y) {b : Bool} (h : alt X Y = some b) : decide (x < y) = b := by
  obtain ⟨a1, a2⟩ := hx
  obtain ⟨b1, b2⟩ := hy
  unfold alt at h
  cases hb : decide (X.2 < Y.1) with
  | true =>
    rw [hb] at h
    cases h
    rw [decide_eq_true_eq] at hb
    exact decide_eq_true (Int32.lt_iff_toInt_lt.mpr (by omega))
  | false =>
    rw [hb, cond_false] at h
    cases hc : decide (Y.2 ≤ X.1) with
    | false => rw [hc] at h; cases h
    | true =>
      rw [hc] at h
      cases h
      rw [decide_eq_true_eq] at hc
      refine decide_eq_false fun e => ?_
      have := Int32.lt_iff_toInt_lt.mp e
      omega
theorem g_le {x y : Int32} {b : Bool} (h : decide (x < y) = b) : decide (y ≤ x) = !b := by
  have e : (y ≤ x) ↔ ¬ (x < y) := by
    rw [Int32.le_iff_toInt_le, Int32.lt_iff_toInt_lt]
    omega
  cases b with
  | true => exact decide_eq_false fun z => (e.mp z) (of_decide_eq_true h)
  | false => exact decide_eq_true (e.mpr (of_decide_eq_false h))
theorem g_cond {q : ClassFile.Cond} {X Y : aI} {x y : Int32} (hx : gI X x) (hy : gI Y y) {b : Bool} (h : acond q X Y = some b) : jcond q x y = b := by
  cases q with
  | eq => exact g_eq hx hy h
  | lt => exact g_lt hx hy h
  | gt => exact g_lt hy hx h
  | ne =>
    obtain ⟨c, h1, rfl⟩ := Option.map_eq_some_iff.mp (show (aeq X Y).map not = some b from h)
    have := g_eq hx hy h1
    show decide (¬ x = y) = !c
    cases c with
    | true => exact decide_eq_false (fun z => z (of_decide_eq_true this))
    | false => exact decide_eq_true (of_decide_eq_false this)
  | ge =>
    obtain ⟨c, h1, rfl⟩ := Option.map_eq_some_iff.mp (show (alt X Y).map not = some b from h)
    exact g_le (g_lt hx hy h1)
  | le =>
    obtain ⟨c, h1, rfl⟩ := Option.map_eq_some_iff.mp (show (alt Y X).map not = some b from h)
    exact g_le (g_lt hy hx h1)
theorem g_ix {X : aI} {x : Int32} {k : Nat} (hx : gI X x) (h : aix X = some k) : ¬ x < 0 ∧ x.toNatClampNeg = k ∧ x.toInt = (k : Int) := by
  unfold aix at h
  cases hb : (aX X && decide (0 ≤ X.1)) with
  | false => rw [hb] at h; cases h
  | true =>
    rw [hb] at h
    cases h
    rw [Bool.and_eq_true, decide_eq_true_eq] at hb
    obtain ⟨e1, -⟩ := gI_ex hb.1 hx
    refine ⟨fun z => ?_, ?_, ?_⟩
    · have := Int32.lt_iff_toInt_lt.mp z
      rw [Int32.toInt_zero] at this
      omega
    · show x.toInt.toNat = _
      rw [e1]
    · rw [e1]
      exact (Int.toNat_of_nonneg hb.2).symm
theorem gV_cat {X : aV} {v : Value} (h : gV X v) : acat X = v.category := by
  match X, v, h with
  | .inl X, .int x, _ => rfl
  | .inr none, .long x, _ => rfl
  | .inr (some w), v, h => rw [h.2]; rfl
theorem gV_sum : ∀ {a : List aV} {s : List Value}, jF2 gV a s → (a.map acat).sum = (s.map fun v => v.category).sum
  | [], [], _ => rfl
  | X :: a, v :: s, h => by
    show acat X + (a.map acat).sum = v.category + (s.map fun v => v.category).sum
    rw [gV_cat h.1, gV_sum (a := a) (s := s) h.2]
  | [], v :: s, h => by cases h
  | X :: a, [], h => by cases h
theorem g_get : ∀ {a : List (Nat × aV)} {L : List (Nat × Value)}, jF2 gL a L → ∀ {i : Nat} {X : aV}, agv a i = some X → ∃ v, jget L i = some v ∧ gV X v
  | [], [], _, i, X, h => by cases h
  | x :: a, y :: L, hf, i, X, h => by
    unfold agv at h
    cases hb : (x.1 == i) with
    | true =>
      rw [hb] at h
      cases h
      refine ⟨y.2, ?_, hf.1.2⟩
      unfold jget
      rw [← hf.1.1, hb]
      rfl
    | false =>
      rw [hb] at h
      obtain ⟨v, h1, h2⟩ := g_get (a := a) (L := L) hf.2 h
      refine ⟨v, ?_, h2⟩
      unfold jget
      rw [← hf.1.1, hb]
      exact h1
  | [], v :: s, h, _, _, _ => by cases h
  | X :: a, [], h, _, _, _ => by cases h
theorem f2_fil {p : Nat × aV → Bool} {q : Nat × Value → Bool} (hpq : ∀ x y, gL x y → p x = q y) : ∀ {a : List (Nat × aV)} {L : List (Nat × Value)}, jF2 gL a L → jF2 gL (a.filter p) (L.filter q)
  | [], [], _ => trivial
  | x :: a, y :: L, h => by
    rw [List.filter_cons, List.filter_cons, hpq x y h.1]
    split
    · exact ⟨h.1, f2_fil hpq (a := a) (L := L) h.2⟩
    · exact f2_fil hpq (a := a) (L := L) h.2
  | [], v :: s, h => by cases h
  | X :: a, [], h => by cases h
theorem g_put {a : List (Nat × aV)} {L : List (Nat × Value)} (h : jF2 gL a L) {i : Nat} {X : aV} {v : Value} (hv : gV X v) : jF2 gL (aput a i X) (jput L i v) := by
  refine ⟨⟨rfl, hv⟩, f2_fil (fun x y hxy => ?_) h⟩
  rw [hxy.1, gV_cat hxy.2]
theorem g_put2 {a : List (Nat × aV)} {L : List (Nat × Value)} (h : jF2 gL a L) {i : Nat} {X : aV} {v : Value} (hv : gV X v) : jF2 gL (aput2 a i X) (jput2 L i v) := by
  refine ⟨⟨rfl, hv⟩, f2_fil (fun x y hxy => ?_) h⟩
  rw [hxy.1, gV_cat hxy.2]
theorem g_ref (i : Nat) : gV (aref i) (.ref i) := ⟨⟨i, Or.inl rfl⟩, rfl⟩
end
section
theorem f2_cons {α β : Type} {R : α → β → Prop} {a : α} {as : List α} {bs : List β} (h : jF2 R (a :: as) bs) : ∃ b bs', bs = b :: bs' ∧ R a b ∧ jF2 R as bs' := by
  cases bs with
  | nil => cases h
  | cons b bs => exact ⟨b, bs, rfl, h.1, h.2⟩
theorem f2_nil {α β : Type} {R : α → β → Prop} {bs : List β} (h : jF2 R ([] : List α) bs) : bs = [] := by
  cases bs with
  | nil => rfl
  | cons b bs => cases h
theorem gV_int {X : aI} {v : Value} (h : gV (.inl X) v) : ∃ x, v = .int x ∧ gI X x := by
  cases v <;> first | exact ⟨_, rfl, h⟩ | cases h
theorem gV_long {v : Value} (h : gV (.inr none) v) : ∃ x, v = .long x := by
  cases v <;> first | exact ⟨_, rfl⟩ | cases h
theorem gV_ex {w v : Value} (h : gV (.inr (some w)) v) : v = w := h.2
theorem gE_obj {o : Nat × List aV} {e : jE} (h : gE (.inl o) e) : ∃ p, e = .inl p ∧ o.1 = p.1 ∧ jF2 gV o.2 p.2 := by
  match e, h with
  | .inl p, h => exact ⟨p, rfl, h⟩
theorem gE_int {o : Nat × List aI} {e : jE} (h : gE (.inr (.inl o)) e) : ∃ p, e = .inr (.inl p) ∧ o.1 = p.1 ∧ jF2 gI o.2 p.2 := by
  match e, h with
  | .inr (.inl p), h => exact ⟨p, rfl, h⟩
theorem gmk {j : jO} {A : aC} {c : jC} (h1 : j = some (.inl c)) (h2 : gC A c) : ∃ o', j = some o' ∧ gO (.inl A) o' := ⟨.inl c, h1, h2⟩
section GX
variable {i t : Nat} {a : List (Nat × aV)} {L : List (Nat × Value)} {sa : List aV} {st : List Value} {ha : List aE} {h : List jE} {o : aC ⊕ aR}
theorem gx_loadI (hL : jF2 gL a L) (hs : jF2 gV sa st) (hh : jF2 gE ha h) (he : aloadI a i t sa ha = some o) : ∃ o', jloadI L i t st h = some o' ∧ gO o o' := by
  unfold aloadI at he
  split at he
  · rename_i x hx
    obtain ⟨v, h1, h2⟩ := g_get hL hx
    obtain ⟨y, rfl, hy⟩ := gV_int h2
    cases he
    exact gmk (c := (t, L, .int y :: st, h)) (by unfold jloadI; rw [h1]; rfl) ⟨rfl, hL, ⟨hy, hs⟩, hh⟩
  · cases he
theorem gx_loadL (hL : jF2 gL a L) (hs : jF2 gV sa st) (hh : jF2 gE ha h) (he : aloadL a i t sa ha = some o) : ∃ o', jloadL L i t st h = some o' ∧ gO o o' := by
  unfold aloadL at he
  split at he
  · rename_i hx
    obtain ⟨v, h1, h2⟩ := g_get hL hx
    obtain ⟨y, rfl⟩ := gV_long h2
    cases he
    exact gmk (c := (t, L, .long y :: st, h)) (by unfold jloadL; rw [h1]; rfl) ⟨rfl, hL, ⟨trivial, hs⟩, hh⟩
  · cases he
theorem gx_loadA (hL : jF2 gL a L) (hs : jF2 gV sa st) (hh : jF2 gE ha h) (he : aloadA a i t sa ha = some o) : ∃ o', jloadA L i t st h = some o' ∧ gO o o' := by
  unfold aloadA at he
  split at he
  · rename_i x hx
    obtain ⟨v, h1, h2⟩ := g_get hL hx
    cases gV_ex h2
    cases he
    exact gmk (c := (t, L, .ref x :: st, h)) (by unfold jloadA; rw [h1]; rfl) ⟨rfl, hL, ⟨g_ref x, hs⟩, hh⟩
  · cases he
theorem gx_storeI {nL : Nat} (hL : jF2 gL a L) (hs : jF2 gV sa st) (hh : jF2 gE ha h) (he : astoreI nL a i t sa ha = some o) : ∃ o', jstoreI nL L i t st h = some o' ∧ gO o o' := by
  unfold astoreI at he
  split at he
  · obtain ⟨v, r, rfl, h1, h2⟩ := f2_cons hs
    obtain ⟨y, rfl, hy⟩ := gV_int h1
    cases hn : Nat.blt i nL with
    | false => rw [hn] at he; cases he
    | true =>
      rw [hn] at he
      cases he
      exact gmk (c := (t, jput L i (.int y), r, h)) (by unfold jstoreI; rw [hn]; rfl) ⟨rfl, g_put hL hy, h2, hh⟩
  · cases he
theorem gx_storeA {nL : Nat} (hL : jF2 gL a L) (hs : jF2 gV sa st) (hh : jF2 gE ha h) (he : astoreA nL a i t sa ha = some o) : ∃ o', jstoreA nL L i t st h = some o' ∧ gO o o' := by
  unfold astoreA at he
  split at he
  · rename_i x r9
    obtain ⟨v, r, rfl, h1, h2⟩ := f2_cons hs
    cases gV_ex h1
    cases hn : Nat.blt i nL with
    | false => rw [hn] at he; cases he
    | true =>
      rw [hn] at he
      cases he
      exact gmk (c := (t, jput L i (.ref x), r, h)) (by unfold jstoreA; rw [hn]; rfl) ⟨rfl, g_put hL (g_ref x), h2, hh⟩
  · cases he
theorem gx_storeL {nL : Nat} (hL : jF2 gL a L) (hs : jF2 gV sa st) (hh : jF2 gE ha h) (he : astoreL nL a i t sa ha = some o) : ∃ o', jstoreL nL L i t st h = some o' ∧ gO o o' := by
  unfold astoreL at he
  split at he
  · obtain ⟨v, r, rfl, h1, h2⟩ := f2_cons hs
    obtain ⟨y, rfl⟩ := gV_long h1
    cases hn : Nat.blt (i + 1) nL with
    | false => rw [hn] at he; cases he
    | true =>
      rw [hn] at he
      cases he
      exact gmk (c := (t, jput2 L i (.long y), r, h)) (by unfold jstoreL; rw [hn]; rfl) ⟨rfl, g_put2 hL (X := .inr none) (v := .long y) trivial, h2, hh⟩
  · cases he
theorem gx_bin {f : aI → aI → aI} {g : Int32 → Int32 → Int32} (hfg : ∀ {X Y : aI} {x y : Int32}, gI X x → gI Y y → gI (f X Y) (g x y)) (hL : jF2 gL a L) (hs : jF2 gV sa st) (hh : jF2 gE ha h) (he : abin f t a sa ha = some o) : ∃ o', jop2 g t L st h = some o' ∧ gO o o' := by
  unfold abin at he
  split at he
  · obtain ⟨v, r, rfl, h1, h2⟩ := f2_cons hs
    obtain ⟨v2, r, rfl, h3, h4⟩ := f2_cons h2
    obtain ⟨y, rfl, hy⟩ := gV_int h1
    obtain ⟨x, rfl, hx⟩ := gV_int h3
    cases he
    exact ⟨_, rfl, rfl, hL, ⟨hfg hx hy, h4⟩, hh⟩
  · cases he
theorem gx_un {f : aI → aI} {g : Int32 → Int32} (hfg : ∀ {X : aI} {x : Int32}, gI X x → gI (f X) (g x)) (hL : jF2 gL a L) (hs : jF2 gV sa st) (hh : jF2 gE ha h) (he : aun f t a sa ha = some o) : ∃ o', jop1 g t L st h = some o' ∧ gO o o' := by
  unfold aun at he
  split at he
  · obtain ⟨v, r, rfl, h1, h2⟩ := f2_cons hs
    obtain ⟨y, rfl, hy⟩ := gV_int h1
    cases he
    exact ⟨_, rfl, rfl, hL, ⟨hfg hy, h2⟩, hh⟩
  · cases he
theorem gx_binL {g : Int64 → Int64 → Int64} (hL : jF2 gL a L) (hs : jF2 gV sa st) (hh : jF2 gE ha h) (he : abinL t a sa ha = some o) : ∃ o', jop2L g t L st h = some o' ∧ gO o o' := by
  unfold abinL at he
  split at he
  · obtain ⟨v, r, rfl, h1, h2⟩ := f2_cons hs
    obtain ⟨v2, r, rfl, h3, h4⟩ := f2_cons h2
    obtain ⟨y, rfl⟩ := gV_long h1
    obtain ⟨x, rfl⟩ := gV_long h3
    cases he
    exact ⟨_, rfl, rfl, hL, ⟨trivial, h4⟩, hh⟩
  · cases he
theorem gx_shL {g : Int64 → Int32 → Int64} (hL : jF2 gL a L) (hs : jF2 gV sa st) (hh : jF2 gE ha h) (he : ashL t a sa ha = some o) : ∃ o', jshL g t L st h = some o' ∧ gO o o' := by
  unfold ashL at he
  split at he
  · obtain ⟨v, r, rfl, h1, h2⟩ := f2_cons hs
    obtain ⟨v2, r, rfl, h3, h4⟩ := f2_cons h2
    obtain ⟨y, rfl, -⟩ := gV_int h1
    obtain ⟨x, rfl⟩ := gV_long h3
    cases he
    exact ⟨_, rfl, rfl, hL, ⟨trivial, h4⟩, hh⟩
  · cases he
theorem g_ints {acs : Nat → Option (List aI)} {cs : Nat → Option (List Int32)} (hcs : ∀ (k : Nat) (l : List aI), acs k = some l → ∃ l2, cs k = some l2 ∧ jF2 gI l l2) (hh : jF2 gE ha h) {l : List aI} (he : aints acs ha i = some l) : ∃ l2, jints cs h i = some l2 ∧ jF2 gI l l2 := by
  unfold aints at he
  unfold jints
  cases hb : Nat.blt i jK0 with
  | false =>
    rw [hb, cond_false] at he
    exact hcs _ _ he
  | true =>
    rw [hb, cond_true] at he
    rw [cond_true]
    split at he
    · rename_i z hz
      obtain ⟨e, h1, h2⟩ := f2_get hh hz
      obtain ⟨p, rfl, h3, h4⟩ := gE_int h2
      cases hc : (z.1 == 0) with
      | false => rw [hc] at he; cases he
      | true =>
        rw [hc] at he
        cases he
        rw [h1]
        refine ⟨p.2, ?_, h4⟩
        show (bif p.1 == 0 then some p.2 else none) = some p.2
        rw [← h3, hc]
        rfl
    · cases he
theorem gx_iald {acs : Nat → Option (List aI)} {cs : Nat → Option (List Int32)} (hcs : ∀ (k : Nat) (l : List aI), acs k = some l → ∃ l2, cs k = some l2 ∧ jF2 gI l l2) (hL : jF2 gL a L) (hs : jF2 gV sa st) (hh : jF2 gE ha h) (he : aiald acs t a sa ha = some o) : ∃ o', jiald cs t L st h = some o' ∧ gO o o' := by
  unfold aiald at he
  split at he
  · obtain ⟨v, r, rfl, h1, h2⟩ := f2_cons hs
    obtain ⟨v2, r, rfl, h3, h4⟩ := f2_cons h2
    obtain ⟨y, rfl, hy⟩ := gV_int h1
    cases gV_ex h3
    split at he
    · rename_i k hk
      obtain ⟨k1, k2, -⟩ := g_ix hy hk
      split at he
      · rename_i l hl
        obtain ⟨l2, hl2, hf⟩ := g_ints hcs hh hl
        split at he
        · rename_i x hx
          obtain ⟨z, z1, z2⟩ := f2_get hf hx
          cases he
          refine gmk (c := (t, L, .int z :: r, h)) ?_ ⟨rfl, hL, ⟨z2, h4⟩, hh⟩
          unfold jiald
          simp only [hl2, jat, k2, z1, if_neg k1]
          rfl
        · cases he
      · cases he
    · cases he
  · cases he
theorem gx_alen {acs : Nat → Option (List aI)} {cs : Nat → Option (List Int32)} (hcs : ∀ (k : Nat) (l : List aI), acs k = some l → ∃ l2, cs k = some l2 ∧ jF2 gI l l2) (hL : jF2 gL a L) (hs : jF2 gV sa st) (hh : jF2 gE ha h) (he : aalen acs t a sa ha = some o) : ∃ o', jalen cs t L st h = some o' ∧ gO o o' := by
  unfold aalen at he
  split at he
  · obtain ⟨v, r, rfl, h1, h2⟩ := f2_cons hs
    cases gV_ex h1
    split at he
    · rename_i l hl
      obtain ⟨l2, hl2, hf⟩ := g_ints hcs hh hl
      cases he
      refine ⟨.inl (t, L, .int (Int32.ofNat l2.length) :: r, h), ?_, rfl, hL, ⟨?_, h2⟩, hh⟩
      · unfold jalen
        simp only [hl2]
        rfl
      · rw [← f2_len hf]
        exact gI_K _
    · cases he
  · cases he
theorem gx_iast (hL : jF2 gL a L) (hs : jF2 gV sa st) (hh : jF2 gE ha h) (he : aiast t a sa ha = some o) : ∃ o', jiast t L st h = some o' ∧ gO o o' := by
  unfold aiast at he
  split at he
  · obtain ⟨v, r, rfl, h1, h2⟩ := f2_cons hs
    obtain ⟨v2, r, rfl, h3, h4⟩ := f2_cons h2
    obtain ⟨v3, r, rfl, h5, h6⟩ := f2_cons h4
    obtain ⟨x, rfl, hx⟩ := gV_int h1
    obtain ⟨y, rfl, hy⟩ := gV_int h3
    cases gV_ex h5
    split at he
    · rename_i k hk
      obtain ⟨k1, k2, -⟩ := g_ix hy hk
      split at he
      · rename_i z hz
        obtain ⟨e, e1, e2⟩ := f2_get hh hz
        obtain ⟨p, rfl, e3, e4⟩ := gE_int e2
        rw [Bool.cond_eq_ite] at he
        split at he
        · rename_i hc
          rw [Bool.and_eq_true] at hc
          cases he
          refine gmk (c := (t, L, r, h.set _ (.inr (.inl (0, p.2.set k x))))) ?_ ⟨rfl, hL, h6, f2_set hh (a := .inr (.inl (0, z.2.set k _))) (b := .inr (.inl (0, p.2.set k x))) ⟨rfl, f2_set e4 hx⟩⟩
          unfold jiast
          simp only [e1]
          rw [if_pos ⟨by rw [← e3]; exact eq_of_beq hc.1, k1, by rw [k2, ← f2_len e4]; exact Nat.le_of_ble_eq_true hc.2⟩, k2]
          rfl
        · cases he
      · cases he
    · cases he
  · cases he
theorem gx_aald (hL : jF2 gL a L) (hs : jF2 gV sa st) (hh : jF2 gE ha h) (he : aaald t a sa ha = some o) : ∃ o', jaald t L st h = some o' ∧ gO o o' := by
  unfold aaald at he
  split at he
  · obtain ⟨v, r, rfl, h1, h2⟩ := f2_cons hs
    obtain ⟨v2, r, rfl, h3, h4⟩ := f2_cons h2
    obtain ⟨y, rfl, hy⟩ := gV_int h1
    cases gV_ex h3
    split at he
    · rename_i k hk
      obtain ⟨k1, k2, -⟩ := g_ix hy hk
      split at he
      · rename_i z hz
        obtain ⟨e, e1, e2⟩ := f2_get hh hz
        have e2 : e = .inr (.inr z) := e2
        subst e2
        rw [Bool.cond_eq_ite] at he
        split at he
        · rename_i hc
          rw [Bool.or_eq_true, Bool.or_eq_true, beq_iff_eq, beq_iff_eq, beq_iff_eq] at hc
          split at he
          · rename_i q hq
            cases he
            refine gmk (c := (t, L, .ref q :: r, h)) ?_ ⟨rfl, hL, ⟨g_ref q, h4⟩, hh⟩
            unfold jaald
            simp only [e1]
            rw [if_neg (fun w => w.elim k1 (fun w => w hc)), k2]
            simp only [hq]
            rfl
          · cases he
        · cases he
      · cases he
    · cases he
  · cases he
theorem g_may (hh : jF2 gE ha h) {k q : Nat} (he : amay ha k q = true) : jmay h k q = true := by
  unfold amay at he
  unfold jmay
  cases e3 : ((k : Nat) == 3) with
  | true => rw [e3] at he; exact he
  | false =>
    rw [e3, cond_false] at he
    rw [cond_false]
    cases e2 : ((k : Nat) == 2) with
    | false => rw [e2] at he; cases he
    | true =>
      rw [e2, cond_true] at he
      rw [cond_true]
      split at he
      · rename_i z hz
        obtain ⟨e, e1, e4⟩ := f2_get hh hz
        obtain ⟨p, rfl, e5, -⟩ := gE_obj e4
        rw [e1]
        show (p.1 == 4) = true
        rw [← e5]
        exact he
      · cases he
theorem gx_aast (hL : jF2 gL a L) (hs : jF2 gV sa st) (hh : jF2 gE ha h) (he : aaast t a sa ha = some o) : ∃ o', jaast t L st h = some o' ∧ gO o o' := by
  unfold aaast at he
  split at he
  · obtain ⟨v, r, rfl, h1, h2⟩ := f2_cons hs
    obtain ⟨v2, r, rfl, h3, h4⟩ := f2_cons h2
    obtain ⟨v3, r, rfl, h5, h6⟩ := f2_cons h4
    obtain ⟨y, rfl, hy⟩ := gV_int h3
    cases gV_ex h5
    cases gV_ex h1
    split at he
    · rename_i k hk
      obtain ⟨k1, k2, -⟩ := g_ix hy hk
      split at he
      · rename_i z hz
        obtain ⟨e, e1, e2⟩ := f2_get hh hz
        have e2 : e = .inr (.inr z) := e2
        subst e2
        rw [Bool.cond_eq_ite] at he
        split at he
        · rename_i hc
          rw [Bool.and_eq_true] at hc
          cases he
          refine gmk (c := (t, L, r, h.set _ (.inr (.inr (z.1, z.2.set k (some _)))))) ?_ ⟨rfl, hL, h6, f2_set hh (a := .inr (.inr (z.1, z.2.set k (some _)))) (b := .inr (.inr (z.1, z.2.set k (some _)))) rfl⟩
          unfold jaast
          simp only [e1]
          rw [if_pos ⟨g_may hh hc.1, k1, by rw [k2]; exact Nat.le_of_ble_eq_true hc.2⟩, k2]
          rfl
        · cases he
      · cases he
    · cases he
  · cases he
theorem gx_getf {ci k : Nat} (hL : jF2 gL a L) (hs : jF2 gV sa st) (hh : jF2 gE ha h) (he : agetf ci k t a sa ha = some o) : ∃ o', jgetf ci k t L st h = some o' ∧ gO o o' := by
  unfold agetf at he
  split at he
  · obtain ⟨v, r, rfl, h1, h2⟩ := f2_cons hs
    cases gV_ex h1
    split at he
    · rename_i z hz
      obtain ⟨e, e1, e2⟩ := f2_get hh hz
      obtain ⟨p, rfl, e5, e6⟩ := gE_obj e2
      cases hc : (z.1 == ci) with
      | false => rw [hc] at he; cases he
      | true =>
        rw [hc, cond_true] at he
        split at he
        · rename_i X hX
          obtain ⟨v, v1, v2⟩ := f2_get e6 hX
          cases he
          refine gmk (c := (t, L, v :: r, h)) ?_ ⟨rfl, hL, ⟨v2, h2⟩, hh⟩
          unfold jgetf
          simp only [e1]
          rw [show (p.1 == ci) = true by rw [← e5]; exact hc, cond_true, v1]
          rfl
        · cases he
    · cases he
  · cases he
theorem g_fit {ty : Nat} {X : aV} {v : Value} (hv : gV X v) (he : afit ty X = true) : jfit ty v = true := by
  match X, v, hv, he with
  | .inl X, .int x, hv, he =>
    have he : (ty == 0 || (ty == 1 && (decide (0 ≤ X.1) && decide (X.2 ≤ 1)))) = true := he
    show (ty == 0 || (ty == 1 && decide (x = 0 ∨ x = 1))) = true
    rw [Bool.or_eq_true] at he ⊢
    rcases he with he | he
    · exact Or.inl he
    · right
      rw [Bool.and_eq_true, Bool.and_eq_true, decide_eq_true_eq, decide_eq_true_eq] at he
      rw [Bool.and_eq_true, decide_eq_true_eq]
      refine ⟨he.1, ?_⟩
      obtain ⟨h1, h2⟩ := hv
      have h3 : x.toInt = 0 ∨ x.toInt = 1 := by omega
      rcases h3 with h3 | h3
      · left
        exact Int32.toInt_inj.mp (by rw [h3]; rfl)
      · right
        exact Int32.toInt_inj.mp (by rw [h3]; rfl)
  | .inr (some (.ref i)), v, hv, he =>
    cases gV_ex hv
    exact he
theorem gx_putf {ci k ty : Nat} (hL : jF2 gL a L) (hs : jF2 gV sa st) (hh : jF2 gE ha h) (he : aputf ci k ty t a sa ha = some o) : ∃ o', jputf ci k ty t L st h = some o' ∧ gO o o' := by
  unfold aputf at he
  split at he
  · obtain ⟨v, r, rfl, h1, h2⟩ := f2_cons hs
    obtain ⟨v2, r, rfl, h3, h4⟩ := f2_cons h2
    cases gV_ex h3
    split at he
    · rename_i z hz
      obtain ⟨e, e1, e2⟩ := f2_get hh hz
      obtain ⟨p, rfl, e5, e6⟩ := gE_obj e2
      rw [Bool.cond_eq_ite] at he
      split at he
      · rename_i hc
        rw [Bool.and_eq_true, Bool.and_eq_true] at hc
        cases he
        refine gmk (c := (t, L, r, h.set _ (.inl (ci, p.2.set k v)))) ?_ ⟨rfl, hL, h4, f2_set hh (a := .inl (ci, z.2.set k _)) (b := .inl (ci, p.2.set k v)) ⟨rfl, f2_set e6 h1⟩⟩
        unfold jputf
        simp only [e1]
        rw [show (p.1 == ci && (Nat.blt k p.2.length && jfit ty v)) = true by rw [← e5, ← f2_len e6, hc.1, hc.2.1, g_fit h1 hc.2.2]; rfl, cond_true]
        rfl
      · cases he
    · cases he
  · cases he
end GX
end
section
theorem gV_of (v : Value) (h : ¬ ∃ i, v = .ref i) : (∀ x, v ≠ .float x) → (∀ x, v ≠ .double x) → (∀ x, v ≠ .retAddr x) → gV (aof v) v := by
  intro h1 h2 h3
  cases v with
  | int x => exact gI_K x
  | long x => trivial
  | null => exact ⟨⟨0, Or.inr rfl⟩, rfl⟩
  | ref x => exact absurd ⟨x, rfl⟩ h
  | float x => exact absurd rfl (h1 x)
  | double x => exact absurd rfl (h2 x)
  | retAddr x => exact absurd rfl (h3 x)
theorem g_df (ci : Nat) : jF2 gV ((jdf ci).map aof) (jdf ci) := by
  have h0 : gV (aof (.int 0)) (.int 0) := gI_K 0
  have hn : gV (aof .null) .null := ⟨⟨0, Or.inr rfl⟩, rfl⟩
  unfold jdf
  split <;> simp only [List.map, jF2, h0, hn, and_self]
section GY
variable {t : Nat} {a : List (Nat × aV)} {L : List (Nat × Value)} {sa : List aV} {st : List Value} {ha : List aE} {h : List jE} {o : aC ⊕ aR}
theorem gx_new {ci : Nat} (hL : jF2 gL a L) (hs : jF2 gV sa st) (hh : jF2 gE ha h) (he : anew ci t (jdf ci) a sa ha = some o) : ∃ o', jnew ci t (jdf ci) L st h = some o' ∧ gO o o' := by
  unfold anew at he
  cases hb : Nat.blt ha.length jK0 with
  | false => rw [hb] at he; cases he
  | true =>
    rw [hb] at he
    cases he
    rw [f2_len hh] at hb
    have hg : jF2 gE [(.inl (ci, (jdf ci).map aof) : aE)] [(.inl (ci, jdf ci) : jE)] := ⟨⟨rfl, g_df ci⟩, trivial⟩
    refine gmk (c := (t, L, .ref h.length :: st, h ++ [.inl (ci, jdf ci)])) ?_ ⟨rfl, hL, ⟨by rw [f2_len hh]; exact g_ref _, hs⟩, f2_app hh hg⟩
    unfold jnew
    rw [hb]
    rfl
theorem g00 : gI (0, 0) 0 := gI_K 0
theorem gx_newa (hL : jF2 gL a L) (hs : jF2 gV sa st) (hh : jF2 gE ha h) (he : anewa t a sa ha = some o) : ∃ o', jnewa t L st h = some o' ∧ gO o o' := by
  unfold anewa at he
  split at he
  · obtain ⟨v, r, rfl, h1, h2⟩ := f2_cons hs
    obtain ⟨y, rfl, hy⟩ := gV_int h1
    split at he
    · rename_i k hk
      obtain ⟨k1, k2, -⟩ := g_ix hy hk
      rw [Bool.cond_eq_ite] at he
      split at he
      · rename_i hc
        rw [Bool.and_eq_true] at hc
        cases he
        have hg : jF2 gE [(.inr (.inl (0, List.replicate k (0, 0))) : aE)] [(.inr (.inl (0, List.replicate k 0)) : jE)] := ⟨⟨rfl, f2_rep g00 k⟩, trivial⟩
        refine gmk (c := (t, L, .ref h.length :: r, h ++ [.inr (.inl (0, List.replicate k 0))])) ?_ ⟨rfl, hL, ⟨by rw [f2_len hh]; exact g_ref _, h2⟩, f2_app hh hg⟩
        unfold jnewa
        simp only []
        rw [if_pos ⟨k1, by rw [k2]; exact Nat.le_of_ble_eq_true hc.1, by rw [← f2_len hh]; exact Nat.le_of_ble_eq_true hc.2⟩, k2]
        rfl
      · cases he
    · cases he
  · cases he
theorem gx_newq {z : Nat} (hL : jF2 gL a L) (hs : jF2 gV sa st) (hh : jF2 gE ha h) (he : anewq z t a sa ha = some o) : ∃ o', jnewq z t L st h = some o' ∧ gO o o' := by
  unfold anewq at he
  split at he
  · obtain ⟨v, r, rfl, h1, h2⟩ := f2_cons hs
    obtain ⟨y, rfl, hy⟩ := gV_int h1
    split at he
    · rename_i k hk
      obtain ⟨k1, k2, -⟩ := g_ix hy hk
      rw [Bool.cond_eq_ite] at he
      split at he
      · rename_i hc
        rw [Bool.and_eq_true] at hc
        cases he
        have hg : jF2 gE [(.inr (.inr (z, List.replicate k none)) : aE)] [(.inr (.inr (z, List.replicate k none)) : jE)] := ⟨rfl, trivial⟩
        refine gmk (c := (t, L, .ref h.length :: r, h ++ [.inr (.inr (z, List.replicate k none))])) ?_ ⟨rfl, hL, ⟨by rw [f2_len hh]; exact g_ref _, h2⟩, f2_app hh hg⟩
        unfold jnewq
        simp only []
        rw [if_pos ⟨k1, by rw [k2]; exact Nat.le_of_ble_eq_true hc.1, by rw [← f2_len hh]; exact Nat.le_of_ble_eq_true hc.2⟩, k2]
        rfl
      · cases he
    · cases he
  · cases he
theorem gx_newg {z : Nat} (hL : jF2 gL a L) (hs : jF2 gV sa st) (hh : jF2 gE ha h) (he : anewg z t a sa ha = some o) : ∃ o', jnewg z t L st h = some o' ∧ gO o o' := by
  unfold anewg at he
  split at he
  · obtain ⟨v, r, rfl, h1, h2⟩ := f2_cons hs
    obtain ⟨v2, r, rfl, h3, h4⟩ := f2_cons h2
    obtain ⟨y, rfl, hy⟩ := gV_int h1
    obtain ⟨n, rfl, hn⟩ := gV_int h3
    split at he
    · rename_i k j hk hj
      obtain ⟨k1, k2, -⟩ := g_ix hn hk
      obtain ⟨j1, j2, -⟩ := g_ix hy hj
      rw [Bool.cond_eq_ite] at he
      split at he
      · rename_i hc
        rw [Bool.and_eq_true, Bool.and_eq_true] at hc
        cases he
        have hi : gE (.inr (.inl (0, List.replicate j (0, 0)))) (.inr (.inl (0, List.replicate j 0))) := ⟨rfl, f2_rep g00 j⟩
        have hg : jF2 gE ((.inr (.inr (z, (List.range k).map (fun i => some (ha.length + 1 + i)))) : aE) :: List.replicate k (.inr (.inl (0, List.replicate j (0, 0))))) ((.inr (.inr (z, (List.range k).map (fun i => some (h.length + 1 + i)))) : jE) :: List.replicate k (.inr (.inl (0, List.replicate j 0)))) := ⟨by rw [f2_len hh]; rfl, f2_rep hi k⟩
        refine gmk (c := (t, L, .ref h.length :: r, h ++ (.inr (.inr (z, (List.range k).map (fun i => some (h.length + 1 + i)))) :: List.replicate k (.inr (.inl (0, List.replicate j 0)))))) ?_ ⟨rfl, hL, ⟨by rw [f2_len hh]; exact g_ref _, h4⟩, f2_app hh hg⟩
        unfold jnewg
        simp only []
        rw [if_pos ⟨k1, j1, by rw [k2]; exact Nat.le_of_ble_eq_true hc.1, by rw [j2]; exact Nat.le_of_ble_eq_true hc.2.1, by rw [k2, ← f2_len hh]; exact Nat.le_of_ble_eq_true hc.2.2⟩, k2, j2]
        rfl
      · cases he
    · cases he
  · cases he
/-- the calls are within the ranges -/
def gCall (ac : Nat → List aV → List aE → Option aR) (jc : Nat → List Value → List jE → Option jR) : Prop := ∀ (m : Nat) (va : List aV) (ha : List aE) (ra : aR) (v : List Value) (h : List jE), ac m va ha = some ra → jF2 gV va v → jF2 gE ha h → ∃ r, jc m v h = some r ∧ gR ra r
theorem gx_inv {ac : Nat → List aV → List aE → Option aR} {jc : Nat → List Value → List jE → Option jR} (hc : gCall ac jc) {m n : Nat} (hL : jF2 gL a L) (hs : jF2 gV sa st) (hh : jF2 gE ha h) (he : ainv ac m n t a sa ha = some o) : ∃ o', jinv jc m n t L st h = some o' ∧ gO o o' := by
  unfold ainv at he
  rw [Bool.cond_eq_ite] at he
  split at he
  · rename_i hb
    rw [Bool.and_eq_true] at hb
    have b1 : n ≤ st.length := by rw [← f2_len hs]; exact Nat.le_of_ble_eq_true hb.1
    have b2 : ((st.drop n).map fun v => v.category).sum ≤ 8 := by rw [← gV_sum (f2_drop n hs)]; exact Nat.le_of_ble_eq_true hb.2
    have hd := f2_drop n hs
    split at he
    · rename_i X h' hr
      obtain ⟨r, r1, r2, r3⟩ := hc _ _ _ _ _ _ hr (f2_rev (f2_take n hs)) hh
      obtain ⟨rv, rh⟩ := r
      obtain ⟨v, rfl, hv⟩ := r2
      cases he
      refine gmk (c := (t, L, v :: st.drop n, rh)) ?_ ⟨rfl, hL, ⟨hv, hd⟩, r3⟩
      unfold jinv
      rw [if_pos ⟨b1, b2⟩, r1]
      rfl
    · rename_i h' hr
      obtain ⟨r, r1, r2, r3⟩ := hc _ _ _ _ _ _ hr (f2_rev (f2_take n hs)) hh
      obtain ⟨rv, rh⟩ := r
      have r2 : rv = none := r2
      subst r2
      cases he
      refine gmk (c := (t, L, st.drop n, rh)) ?_ ⟨rfl, hL, hd, r3⟩
      unfold jinv
      rw [if_pos ⟨b1, b2⟩, r1]
      rfl
    · cases he
  · cases he
theorem gx_invV {ac : Nat → List aV → List aE → Option aR} {jc : Nat → List Value → List jE → Option jR} (hc : gCall ac jc) {m n ci : Nat} (hL : jF2 gL a L) (hs : jF2 gV sa st) (hh : jF2 gE ha h) (he : ainvV ac m n ci t a sa ha = some o) : ∃ o', jinvV jc m n ci t L st h = some o' ∧ gO o o' := by
  unfold ainvV at he
  split at he
  · rename_i i As hrv
    have hf := f2_rev (f2_take n hs)
    rw [hrv] at hf
    obtain ⟨v, r, e1, h1, h2⟩ := f2_cons hf
    cases gV_ex h1
    split at he
    · rename_i z hz
      obtain ⟨e, e2, e3⟩ := f2_get hh hz
      obtain ⟨p, rfl, e5, e6⟩ := gE_obj e3
      rw [Bool.cond_eq_ite] at he
      split at he
      · rename_i hb
        obtain ⟨o', o1, o2⟩ := gx_inv hc hL hs hh he
        refine ⟨o', ?_, o2⟩
        unfold jinvV
        rw [e1]
        simp only [e2]
        rw [show (p.1 == ci) = true by rw [← e5]; exact hb, cond_true]
        exact o1
      · cases he
    · cases he
  · cases he
theorem gx_invI {ac : Nat → List aV → List aE → Option aR} {jc : Nat → List Value → List jE → Option jR} (hc : gCall ac jc) {m n : Nat} (hL : jF2 gL a L) (hs : jF2 gV sa st) (hh : jF2 gE ha h) (he : ainvI ac m n t a sa ha = some o) : ∃ o', jinvI jc m n t L st h = some o' ∧ gO o o' := by
  unfold ainvI at he
  split at he
  · rename_i i As hrv
    have hf := f2_rev (f2_take n hs)
    rw [hrv] at hf
    obtain ⟨v, r, e1, h1, h2⟩ := f2_cons hf
    cases gV_ex h1
    obtain ⟨o', o1, o2⟩ := gx_inv hc hL hs hh he
    refine ⟨o', ?_, o2⟩
    unfold jinvI
    rw [e1]
    exact o1
  · cases he
theorem g_getD {fa : List aI} {f : List Int32} (hf : jF2 gI fa f) (k : Nat) : gI (fa.getD k (0, 0)) (f.getD k 0) := by
  rw [List.getD_eq_getElem?_getD, List.getD_eq_getElem?_getD]
  cases he : fa[k]? with
  | some x =>
    obtain ⟨y, h1, h2⟩ := f2_get hf he
    rw [h1]
    exact h2
  | none =>
    have : f[k]? = none := by
      rw [List.getElem?_eq_none_iff] at he ⊢
      rw [← f2_len hf]
      exact he
    rw [this]
    exact g00
theorem g_cpy {fa ga : List aI} {f g : List Int32} (hf : jF2 gI fa f) (hg : jF2 gI ga g) (sp dp n : Nat) : jF2 gI (acpy fa ga sp dp n) (jcpy f g sp dp n) := by
  unfold acpy jcpy
  rw [f2_len hg]
  refine f2_map _ (fun k _ => ?_)
  split
  · exact g_getD hf _
  · exact g_getD hg _
theorem gx_copy (hL : jF2 gL a L) (hs : jF2 gV sa st) (hh : jF2 gE ha h) (he : acopy t a sa ha = some o) : ∃ o', jcopy t L st h = some o' ∧ gO o o' := by
  unfold acopy at he
  split at he
  · obtain ⟨v, r, rfl, h1, h2⟩ := f2_cons hs
    obtain ⟨v2, r, rfl, h3, h4⟩ := f2_cons h2
    obtain ⟨v3, r, rfl, h5, h6⟩ := f2_cons h4
    obtain ⟨v4, r, rfl, h7, h8⟩ := f2_cons h6
    obtain ⟨v5, r, rfl, h9, h10⟩ := f2_cons h8
    obtain ⟨n, rfl, hn⟩ := gV_int h1
    obtain ⟨dp, rfl, hdp⟩ := gV_int h3
    cases gV_ex h5
    obtain ⟨sp, rfl, hsp⟩ := gV_int h7
    cases gV_ex h9
    split at he
    · rename_i n' dp' sp' q1 q2 q3
      obtain ⟨n1, n2, -⟩ := g_ix hn q1
      obtain ⟨d1, d2, -⟩ := g_ix hdp q2
      obtain ⟨s1, s2, -⟩ := g_ix hsp q3
      split at he
      · rename_i f g hq hd
        obtain ⟨e, e1, e2⟩ := f2_get hh hq
        obtain ⟨p, rfl, e3, e4⟩ := gE_int e2
        obtain ⟨e', e1', e2'⟩ := f2_get hh hd
        obtain ⟨p', rfl, e3', e4'⟩ := gE_int e2'
        rw [Bool.cond_eq_ite] at he
        split at he
        · rename_i hb
          rw [Bool.and_eq_true, Bool.and_eq_true, Bool.and_eq_true, Bool.and_eq_true] at hb
          obtain ⟨b1, b2, b3, b4, b5⟩ := hb
          cases he
          refine gmk (c := (t, L, r, h.set _ (.inr (.inl (0, jcpy p.2 p'.2 sp' dp' n'))))) ?_ ⟨rfl, hL, h10, f2_set hh (a := .inr (.inl (0, acpy f.2 g.2 sp' dp' n'))) (b := .inr (.inl (0, jcpy p.2 p'.2 sp' dp' n'))) ⟨rfl, g_cpy e4 e4' sp' dp' n'⟩⟩
          unfold jcopy
          simp only [e1, e1']
          rw [if_pos ⟨by rw [← e3]; exact eq_of_beq b1, by rw [← e3']; exact eq_of_beq b2, s1, d1, n1, by rw [s2, n2, ← f2_len e4]; exact Nat.le_of_ble_eq_true b3, by rw [d2, n2, ← f2_len e4']; exact Nat.le_of_ble_eq_true b4, by rw [← gV_sum h10]; exact Nat.le_of_ble_eq_true b5⟩, n2, d2, s2]
          rfl
        · cases he
      · cases he
    · cases he
  · cases he
theorem gx_tsw {dflt lo hi : Int} {offs : List Int} {pc : Nat} (hL : jF2 gL a L) (hs : jF2 gV sa st) (hh : jF2 gE ha h) (he : atsw dflt lo hi offs pc a sa ha = some o) : ∃ o', jtsw dflt lo hi offs pc L st h = some o' ∧ gO o o' := by
  unfold atsw at he
  split at he
  · obtain ⟨v, r, rfl, h1, h2⟩ := f2_cons hs
    obtain ⟨y, rfl, hy⟩ := gV_int h1
    rw [Bool.cond_eq_ite] at he
    split at he
    · rename_i hb
      rw [Bool.or_eq_true, decide_eq_true_eq, decide_eq_true_eq] at hb
      rw [Bool.cond_eq_ite] at he
      split at he
      · rename_i hd
        rw [decide_eq_true_eq] at hd
        cases he
        refine gmk (c := (((pc : Int) + dflt).toNat, L, r, h)) ?_ ⟨rfl, hL, h2, hh⟩
        unfold jtsw
        simp only []
        rw [if_pos (by obtain ⟨g1, g2⟩ := hy; omega), if_pos hd]
        rfl
      · cases he
    · rw [Bool.cond_eq_ite] at he
      split at he
      · rename_i hb
        rw [Bool.and_eq_true, Bool.and_eq_true, decide_eq_true_eq, decide_eq_true_eq] at hb
        obtain ⟨e1, -⟩ := gI_ex hb.1 hy
        split at he
        · rename_i off ho
          rw [Bool.cond_eq_ite] at he
          split at he
          · rename_i hd
            rw [decide_eq_true_eq] at hd
            cases he
            refine gmk (c := (((pc : Int) + off).toNat, L, r, h)) ?_ ⟨rfl, hL, h2, hh⟩
            unfold jtsw
            simp only []
            rw [if_neg (by omega), e1]
            simp only [ho]
            rw [if_pos hd]
            rfl
          · cases he
        · cases he
      · cases he
  · cases he
theorem gx_lsw {dflt : Int} {ps : List (Int × Int)} {pc : Nat} (hL : jF2 gL a L) (hs : jF2 gV sa st) (hh : jF2 gE ha h) (he : alsw dflt ps pc a sa ha = some o) : ∃ o', jlsw dflt ps pc L st h = some o' ∧ gO o o' := by
  unfold alsw at he
  split at he
  · obtain ⟨v, r, rfl, h1, h2⟩ := f2_cons hs
    obtain ⟨y, rfl, hy⟩ := gV_int h1
    rw [Bool.cond_eq_ite] at he
    split at he
    · rename_i hb
      rw [Bool.and_eq_true, Bool.and_eq_true, decide_eq_true_eq] at hb
      obtain ⟨e1, -⟩ := gI_ex hb.1 hy
      cases he
      refine gmk (c := (((pc : Int) + Op.lookupswitch.offset ps dflt y.toInt).toNat, L, r, h)) ?_ ⟨by rw [e1], hL, h2, hh⟩
      unfold jlsw
      simp only []
      rw [if_pos ⟨hb.2.1, by rw [e1]; exact hb.2.2⟩]
      rfl
    · cases he
  · cases he
theorem gx_if {q : ClassFile.Cond} {x : Nat} (hL : jF2 gL a L) (hs : jF2 gV sa st) (hh : jF2 gE ha h) (he : aif q x t a sa ha = some o) : ∃ o', jif q x t L st h = some o' ∧ gO o o' := by
  unfold aif at he
  split at he
  · obtain ⟨v, r, rfl, h1, h2⟩ := f2_cons hs
    obtain ⟨y, rfl, hy⟩ := gV_int h1
    split at he
    · rename_i hb
      cases he
      refine gmk (c := (x, L, r, h)) ?_ ⟨rfl, hL, h2, hh⟩
      unfold jif
      simp only [g_cond hy g00 hb, cond_true]
      rfl
    · rename_i hb
      cases he
      refine gmk (c := (t, L, r, h)) ?_ ⟨rfl, hL, h2, hh⟩
      unfold jif
      simp only [g_cond hy g00 hb, cond_false]
      rfl
    · cases he
  · cases he
theorem gx_icmp {q : ClassFile.Cond} {x : Nat} (hL : jF2 gL a L) (hs : jF2 gV sa st) (hh : jF2 gE ha h) (he : aicmp q x t a sa ha = some o) : ∃ o', jicmp q x t L st h = some o' ∧ gO o o' := by
  unfold aicmp at he
  split at he
  · obtain ⟨v, r, rfl, h1, h2⟩ := f2_cons hs
    obtain ⟨v2, r, rfl, h3, h4⟩ := f2_cons h2
    obtain ⟨y, rfl, hy⟩ := gV_int h1
    obtain ⟨z, rfl, hz⟩ := gV_int h3
    split at he
    · rename_i hb
      cases he
      refine gmk (c := (x, L, r, h)) ?_ ⟨rfl, hL, h4, hh⟩
      unfold jicmp
      simp only [g_cond hz hy hb, cond_true]
      rfl
    · rename_i hb
      cases he
      refine gmk (c := (t, L, r, h)) ?_ ⟨rfl, hL, h4, hh⟩
      unfold jicmp
      simp only [g_cond hz hy hb, cond_false]
      rfl
    · cases he
  · cases he
theorem gmr {j : jO} {A : aR} {c : jR} (h1 : j = some (.inr c)) (h2 : gR A c) : ∃ o', j = some o' ∧ gO (.inr A) o' := ⟨.inr c, h1, h2⟩
theorem gx_ret {ret : Option FieldType} (hs : jF2 gV sa st) (hh : jF2 gE ha h) (he : aret ret sa ha = some o) : ∃ o', jret ret L st h = some o' ∧ gO o o' := by
  unfold aret at he
  split at he
  · obtain ⟨v, r, rfl, h1, h2⟩ := f2_cons hs
    cases f2_nil h2
    obtain ⟨y, rfl, hy⟩ := gV_int h1
    split at he
    · cases he
      exact gmr (c := (some (.int y), h)) rfl ⟨⟨_, rfl, hy⟩, hh⟩
    · rw [Bool.cond_eq_ite] at he
      split at he
      · rename_i hb
        rw [Bool.and_eq_true, decide_eq_true_eq, decide_eq_true_eq] at hb
        cases he
        refine gmr (c := (some (.int y), h)) ?_ ⟨⟨_, rfl, hy⟩, hh⟩
        unfold jret
        simp only []
        rw [if_pos]
        obtain ⟨g1, g2⟩ := hy
        have h3 : y.toInt = 0 ∨ y.toInt = 1 := by omega
        rcases h3 with h3 | h3
        · left
          exact Int32.toInt_inj.mp (by rw [h3]; rfl)
        · right
          exact Int32.toInt_inj.mp (by rw [h3]; rfl)
      · cases he
    · cases he
  · cases he
theorem gx_retA {ret : Option FieldType} (hs : jF2 gV sa st) (hh : jF2 gE ha h) (he : aretA ret sa ha = some o) : ∃ o', jretA ret L st h = some o' ∧ gO o o' := by
  unfold aretA at he
  split at he
  · rename_i x
    obtain ⟨v, r, rfl, h1, h2⟩ := f2_cons hs
    cases f2_nil h2
    cases gV_ex h1
    split at he
    · cases he
      exact gmr (c := (some (.ref x), h)) rfl ⟨⟨_, rfl, g_ref x⟩, hh⟩
    · cases he
  · cases he
theorem gx_retL {ret : Option FieldType} (hs : jF2 gV sa st) (hh : jF2 gE ha h) (he : aretL ret sa ha = some o) : ∃ o', jretL ret L st h = some o' ∧ gO o o' := by
  unfold aretL at he
  split at he
  · obtain ⟨v, r, rfl, h1, h2⟩ := f2_cons hs
    cases f2_nil h2
    obtain ⟨y, rfl⟩ := gV_long h1
    split at he
    · cases he
      exact gmr (c := (some (.long y), h)) rfl ⟨⟨_, rfl, trivial⟩, hh⟩
    · cases he
  · cases he
theorem gx_retV {ret : Option FieldType} (hs : jF2 gV sa st) (hh : jF2 gE ha h) (he : aretV ret sa ha = some o) : ∃ o', jretV ret L st h = some o' ∧ gO o o' := by
  unfold aretV at he
  split at he
  · cases f2_nil hs
    split at he
    · cases he
      exact gmr (c := (none, h)) rfl ⟨rfl, hh⟩
    · cases he
  · cases he
end GY
end
section
section GZ
variable {a : List (Nat × aV)} {L : List (Nat × Value)} {sa : List aV} {st : List Value} {ha : List aE} {h : List jE} {o : aC ⊕ aR}
set_option maxHeartbeats 4000000 in
theorem g_exec {acs : Nat → Option (List aI)} {cs : Nat → Option (List Int32)} (hcs : ∀ (k : Nat) (l : List aI), acs k = some l → ∃ l2, cs k = some l2 ∧ jF2 gI l l2) {ac : Nat → List aV → List aE → Option aR} {jc : Nat → List Value → List jE → Option jR} (hc : gCall ac jc) {nL : Nat} {ret : Option FieldType} {x : jI} {pc : Nat} (hL : jF2 gL a L) (hs : jF2 gV sa st) (hh : jF2 gE ha h) (he : aexec acs ac nL ret x pc a sa ha = some o) : ∃ o', jexec cs jc nL ret x pc L st h = some o' ∧ gO o o' := by
  obtain ⟨ins, len, p, b, c, k⟩ := x
  cases ins with
  | iconst n => cases he; exact gmk (c := (pc + 1, L, .int (Int32.ofInt n) :: st, h)) rfl ⟨rfl, hL, ⟨gI_K _, hs⟩, hh⟩
  | bipush n => cases he; exact gmk (c := (pc + 2, L, .int (Int8.ofInt n).toInt32 :: st, h)) rfl ⟨rfl, hL, ⟨gI_K _, hs⟩, hh⟩
  | sipush n => cases he; exact gmk (c := (pc + 3, L, .int (Int16.ofInt n).toInt32 :: st, h)) rfl ⟨rfl, hL, ⟨gI_K _, hs⟩, hh⟩
  | lconst n => cases he; exact gmk (c := (pc + 1, L, .long (Int64.ofNat (n : Nat)) :: st, h)) rfl ⟨rfl, hL, ⟨trivial, hs⟩, hh⟩
  | ldc i =>
    unfold aexec at he
    simp only [] at he
    cases hb : (p == 0) with
    | true =>
      rw [hb] at he
      cases he
      refine gmk (c := (pc + 2, L, .int k.toInt32 :: st, h)) ?_ ⟨rfl, hL, ⟨gI_K _, hs⟩, hh⟩
      unfold jexec
      simp only [hb, cond_true]
      rfl
    | false =>
      rw [hb] at he
      cases he
      refine gmk (c := (pc + 2, L, .ref (jK0 + b) :: st, h)) ?_ ⟨rfl, hL, ⟨g_ref _, hs⟩, hh⟩
      unfold jexec
      simp only [hb, cond_false]
      rfl
  | ldc_w i => cases he; exact gmk (c := (pc + 3, L, .int k.toInt32 :: st, h)) rfl ⟨rfl, hL, ⟨gI_K _, hs⟩, hh⟩
  | ldc2_w i => cases he; exact gmk (c := (pc + 3, L, .long k :: st, h)) rfl ⟨rfl, hL, ⟨trivial, hs⟩, hh⟩
  | iload_n i => exact gx_loadI hL hs hh he
  | iload i => exact gx_loadI hL hs hh he
  | lload_n i => exact gx_loadL hL hs hh he
  | lload i => exact gx_loadL hL hs hh he
  | aload_n i => exact gx_loadA hL hs hh he
  | aload i => exact gx_loadA hL hs hh he
  | istore_n i => exact gx_storeI hL hs hh he
  | istore i => exact gx_storeI hL hs hh he
  | astore_n i => exact gx_storeA hL hs hh he
  | astore i => exact gx_storeA hL hs hh he
  | lstore_n i => exact gx_storeL hL hs hh he
  | lstore i => exact gx_storeL hL hs hh he
  | iinc i n =>
    unfold aexec at he
    simp only [] at he
    split at he
    · rename_i X hX
      obtain ⟨v, h1, h2⟩ := g_get hL hX
      obtain ⟨y, rfl, hy⟩ := gV_int h2
      cases hn : Nat.blt i nL with
      | false => rw [hn] at he; cases he
      | true =>
        rw [hn] at he
        cases he
        refine gmk (c := (pc + 3, jput L i (.int (y + Int32.ofInt n)), st, h)) ?_ ⟨rfl, g_put hL (X := .inl (aadd X (aK (Int32.ofInt n).toInt))) (v := .int (y + Int32.ofInt n)) (g_add hy (gI_K _)), hs, hh⟩
        unfold jexec
        simp only [h1, hn, cond_true]
        rfl
    · cases he
  | iadd => exact gx_bin g_add hL hs hh he
  | isub => exact gx_bin g_sub hL hs hh he
  | imul => exact gx_bin g_mul hL hs hh he
  | iand => exact gx_bin (g_op _) hL hs hh he
  | ior => exact gx_bin (g_op _) hL hs hh he
  | ixor => exact gx_bin (g_op _) hL hs hh he
  | ishl => exact gx_bin (g_op _) hL hs hh he
  | ishr => exact gx_bin (g_op _) hL hs hh he
  | iushr => exact gx_bin (g_op _) hL hs hh he
  | iaload => exact gx_iald hcs hL hs hh he
  | iastore => exact gx_iast hL hs hh he
  | aaload => exact gx_aald hL hs hh he
  | aastore => exact gx_aast hL hs hh he
  | arraylength => exact gx_alen hcs hL hs hh he
  | ineg => exact gx_un g_neg hL hs hh he
  | i2b => exact gx_un (g_op1 _) hL hs hh he
  | i2s => exact gx_un (g_op1 _) hL hs hh he
  | i2c => exact gx_un (g_op1 _) hL hs hh he
  | ladd => exact gx_binL hL hs hh he
  | lmul => exact gx_binL hL hs hh he
  | land => exact gx_binL hL hs hh he
  | lor => exact gx_binL hL hs hh he
  | lshl => exact gx_shL hL hs hh he
  | lshr => exact gx_shL hL hs hh he
  | lushr => exact gx_shL hL hs hh he
  | i2l =>
    unfold aexec at he
    simp only [] at he
    split at he
    · obtain ⟨v, r, rfl, h1, h2⟩ := f2_cons hs
      obtain ⟨y, rfl, hy⟩ := gV_int h1
      cases he
      exact gmk (c := (pc + 1, L, .long y.toInt64 :: r, h)) rfl ⟨rfl, hL, ⟨trivial, h2⟩, hh⟩
    · cases he
  | l2i =>
    unfold aexec at he
    simp only [] at he
    split at he
    · obtain ⟨v, r, rfl, h1, h2⟩ := f2_cons hs
      obtain ⟨y, rfl⟩ := gV_long h1
      cases he
      exact gmk (c := (pc + 1, L, .int y.toInt32 :: r, h)) rfl ⟨rfl, hL, ⟨gI_T _, h2⟩, hh⟩
    · cases he
  | idiv =>
    unfold aexec at he
    simp only [] at he
    split at he
    · obtain ⟨v, r, rfl, h1, h2⟩ := f2_cons hs
      obtain ⟨v2, r, rfl, h3, h4⟩ := f2_cons h2
      obtain ⟨y, rfl, hy⟩ := gV_int h1
      obtain ⟨x, rfl, hx⟩ := gV_int h3
      rw [Bool.cond_eq_ite] at he
      split at he
      · rename_i hb
        rw [Bool.or_eq_true, decide_eq_true_eq, decide_eq_true_eq] at hb
        cases he
        have hne : ¬ y = 0 := fun z => by
          subst z
          obtain ⟨g1, g2⟩ := hy
          rw [Int32.toInt_zero] at g1 g2
          omega
        refine gmk (c := (pc + 1, L, .int (x / y) :: r, h)) ?_ ⟨rfl, hL, ⟨g_op (fun x y => x / y) hx hy, h4⟩, hh⟩
        unfold jexec
        simp only []
        rw [if_neg hne]
        rfl
      · cases he
    · cases he
  | irem =>
    unfold aexec at he
    simp only [] at he
    split at he
    · obtain ⟨v, r, rfl, h1, h2⟩ := f2_cons hs
      obtain ⟨v2, r, rfl, h3, h4⟩ := f2_cons h2
      obtain ⟨y, rfl, hy⟩ := gV_int h1
      obtain ⟨x, rfl, hx⟩ := gV_int h3
      rw [Bool.cond_eq_ite] at he
      split at he
      · rename_i hb
        rw [Bool.or_eq_true, decide_eq_true_eq, decide_eq_true_eq] at hb
        cases he
        have hne : ¬ y = 0 := fun z => by
          subst z
          obtain ⟨g1, g2⟩ := hy
          rw [Int32.toInt_zero] at g1 g2
          omega
        refine gmk (c := (pc + 1, L, .int (x - x / y * y) :: r, h)) ?_ ⟨rfl, hL, ⟨g_op (fun x y => x - x / y * y) hx hy, h4⟩, hh⟩
        unfold jexec
        simp only []
        rw [if_neg hne]
        rfl
      · cases he
    · cases he
  | dup =>
    unfold aexec at he
    simp only [] at he
    split at he
    · obtain ⟨v, r, rfl, h1, h2⟩ := f2_cons hs
      obtain ⟨y, rfl, hy⟩ := gV_int h1
      cases he
      exact gmk (c := (pc + 1, L, .int y :: .int y :: r, h)) rfl ⟨rfl, hL, ⟨hy, hy, h2⟩, hh⟩
    · rename_i x r9
      obtain ⟨v, r, rfl, h1, h2⟩ := f2_cons hs
      cases gV_ex h1
      cases he
      exact gmk (c := (pc + 1, L, .ref x :: .ref x :: r, h)) rfl ⟨rfl, hL, ⟨g_ref x, g_ref x, h2⟩, hh⟩
    · cases he
  | pop =>
    unfold aexec at he
    simp only [] at he
    split at he
    · obtain ⟨v, r, rfl, h1, h2⟩ := f2_cons hs
      obtain ⟨y, rfl, hy⟩ := gV_int h1
      cases he
      exact gmk (c := (pc + 1, L, r, h)) rfl ⟨rfl, hL, h2, hh⟩
    · obtain ⟨v, r, rfl, h1, h2⟩ := f2_cons hs
      cases gV_ex h1
      cases he
      exact gmk (c := (pc + 1, L, r, h)) rfl ⟨rfl, hL, h2, hh⟩
    · cases he
  | dup2 =>
    unfold aexec at he
    simp only [] at he
    split at he
    · rename_i y9 x r9
      obtain ⟨v, r, rfl, h1, h2⟩ := f2_cons hs
      obtain ⟨v2, r, rfl, h3, h4⟩ := f2_cons h2
      obtain ⟨y, rfl, hy⟩ := gV_int h1
      cases gV_ex h3
      cases he
      exact gmk (c := (pc + 1, L, .int y :: .ref x :: .int y :: .ref x :: r, h)) rfl ⟨rfl, hL, ⟨hy, g_ref x, hy, g_ref x, h4⟩, hh⟩
    · obtain ⟨v, r, rfl, h1, h2⟩ := f2_cons hs
      obtain ⟨v2, r, rfl, h3, h4⟩ := f2_cons h2
      obtain ⟨y, rfl, hy⟩ := gV_int h1
      obtain ⟨x, rfl, hx⟩ := gV_int h3
      cases he
      exact gmk (c := (pc + 1, L, .int y :: .int x :: .int y :: .int x :: r, h)) rfl ⟨rfl, hL, ⟨hy, hx, hy, hx, h4⟩, hh⟩
    · cases he
  | goto off => cases he; exact gmk (c := (p, L, st, h)) rfl ⟨rfl, hL, hs, hh⟩
  | ifCond q off => exact gx_if hL hs hh he
  | if_icmp q off => exact gx_icmp hL hs hh he
  | tableswitch d lo hi offs => exact gx_tsw hL hs hh he
  | lookupswitch d ps => exact gx_lsw hL hs hh he
  | getfield i =>
    unfold aexec at he
    simp only [] at he
    cases hb : (c == 9) with
    | true => rw [hb, cond_true] at he; cases he
    | false =>
      rw [hb, cond_false] at he
      obtain ⟨o', o1, o2⟩ := gx_getf hL hs hh he
      refine ⟨o', ?_, o2⟩
      unfold jexec
      simp only [hb, cond_false]
      exact o1
  | putfield i => exact gx_putf hL hs hh he
  | getstatic i =>
    unfold aexec at he
    simp only [] at he
    cases hb : (b == 9) with
    | true => rw [hb, cond_true] at he; cases he
    | false =>
      rw [hb, cond_false] at he
      cases he
      refine gmk (c := (pc + 3, L, .ref (jK0 + p) :: st, h)) ?_ ⟨rfl, hL, ⟨g_ref _, hs⟩, hh⟩
      unfold jexec
      simp only [hb, cond_false]
      rfl
  | new i => exact gx_new hL hs hh he
  | newarray i => exact gx_newa hL hs hh he
  | anewarray i => exact gx_newq hL hs hh he
  | multianewarray i n => exact gx_newg hL hs hh he
  | invokevirtual i =>
    unfold aexec at he
    simp only [] at he
    cases hb : (k == 9) with
    | true => rw [hb, cond_true] at he; cases he
    | false =>
      rw [hb, cond_false] at he
      obtain ⟨o', o1, o2⟩ := gx_invV hc hL hs hh he
      refine ⟨o', ?_, o2⟩
      unfold jexec
      simp only [hb, cond_false]
      exact o1
  | invokespecial i =>
    unfold aexec at he
    simp only [] at he
    cases hb : (c == 1) with
    | true =>
      rw [hb, cond_true] at he
      split at he
      · obtain ⟨v, r, rfl, h1, h2⟩ := f2_cons hs
        cases gV_ex h1
        rw [Bool.cond_eq_ite] at he
        split at he
        · rename_i hq
          cases he
          refine gmk (c := (pc + 3, L, r, h)) ?_ ⟨rfl, hL, h2, hh⟩
          unfold jexec
          simp only [hb, cond_true]
          rw [if_pos (by rw [← gV_sum h2]; exact Nat.le_of_ble_eq_true hq)]
          rfl
        · cases he
      · cases he
    | false =>
      rw [hb, cond_false] at he
      obtain ⟨o', o1, o2⟩ := gx_invI hc hL hs hh he
      refine ⟨o', ?_, o2⟩
      unfold jexec
      simp only [hb, cond_false]
      exact o1
  | invokestatic i =>
    unfold aexec at he
    simp only [] at he
    cases hb : (c == 1) with
    | true =>
      rw [hb, cond_true] at he
      obtain ⟨o', o1, o2⟩ := gx_copy hL hs hh he
      refine ⟨o', ?_, o2⟩
      unfold jexec
      simp only [hb, cond_true]
      exact o1
    | false =>
      rw [hb, cond_false] at he
      obtain ⟨o', o1, o2⟩ := gx_inv hc hL hs hh he
      refine ⟨o', ?_, o2⟩
      unfold jexec
      simp only [hb, cond_false]
      exact o1
  | ireturn => exact gx_ret (L := L) hs hh he
  | areturn => exact gx_retA (L := L) hs hh he
  | return_ => exact gx_retV (L := L) hs hh he
  | lreturn => exact gx_retL (L := L) hs hh he
  | _ => exact nomatch (show (none : aO) = some o from he)
end GZ
theorem g_run {acs : Nat → Option (List aI)} {cs : Nat → Option (List Int32)} (hcs : ∀ (k : Nat) (l : List aI), acs k = some l → ∃ l2, cs k = some l2 ∧ jF2 gI l l2) {ac : Nat → List aV → List aE → Option aR} {jc : Nat → List Value → List jE → Option jR} (hc : gCall ac jc) {nL : Nat} {ret : Option FieldType} {tab : Nat → Option jI} : ∀ (f : Nat) (x : aC) (c : jC) (r : aR), gC x c → arun acs ac nL ret tab f x = some r → ∃ r', jrun cs jc nL ret tab f c = some r' ∧ gR r r'
  | 0, _, _, _, _, h => by cases h
  | f + 1, x, c, r, hx, h => by
    obtain ⟨pc, L, st, h0⟩ := c
    obtain ⟨pa, La, sa, ha⟩ := x
    obtain ⟨e1, e2, e3, e4⟩ := hx
    have e1 : pa = pc := e1
    subst e1
    unfold arun at h
    simp only [] at h
    unfold jrun jstep
    cases ht : tab pa with
    | none => simp only [ht] at h; cases h
    | some y =>
      simp only [ht] at h
      cases he : aexec acs ac nL ret y pa La sa ha with
      | none => simp only [he] at h; cases h
      | some o =>
        simp only [he] at h
        obtain ⟨o', o1, o2⟩ := g_exec hcs hc e2 e3 e4 he
        simp only [ht, o1]
        cases o with
        | inl x' =>
          cases o' with
          | inl c' => exact g_run hcs hc f x' c' r o2 h
          | inr c' => cases o2
        | inr r' =>
          cases o' with
          | inl c' => cases o2
          | inr c' =>
            cases h
            exact ⟨c', rfl, o2⟩
theorem g_sl : ∀ {a : List aV} {s : List Value}, jF2 gV a s → (lg_sl s).length = asl a
  | [], [], _ => rfl
  | X :: a, v :: s, h => by
    unfold lg_sl
    rw [List.flatMap_cons, List.length_append]
    have ih := g_sl (a := a) (s := s) h.2
    unfold lg_sl at ih
    rw [ih]
    show _ = acat X + asl a
    rw [gV_cat h.1]
    congr 1
    rcases lv_cat v with e | e
    · rw [e]; rfl
    · rw [e]; rfl
  | [], v :: s, h => by cases h
  | X :: a, [], h => by cases h
theorem g_args : ∀ {a : List aV} {s : List Value}, jF2 gV a s → ∀ i : Nat, jF2 gL (aargs i a) (lv_args i s)
  | [], [], _, _ => trivial
  | X :: a, v :: s, h, i => by
    show jF2 gL ((i, X) :: aargs (if acat X = 2 then i + 2 else i + 1) a) ((i, v) :: lv_args (if v.category = 2 then i + 2 else i + 1) s)
    rw [gV_cat h.1]
    exact ⟨⟨rfl, h.1⟩, g_args (a := a) (s := s) h.2 _⟩
  | [], v :: s, h, _ => by cases h
  | X :: a, [], h, _ => by cases h
theorem g_call {mt : Nat → Option jM} {acs : Nat → Option (List aI)} {cs : Nat → Option (List Int32)} (hcs : ∀ (k : Nat) (l : List aI), acs k = some l → ∃ l2, cs k = some l2 ∧ jF2 gI l l2) (F : Nat) : ∀ d : Nat, gCall (acall mt acs F d) (jcall mt cs F d)
  | 0 => fun _ _ _ _ _ _ h => by cases h
  | d + 1 => fun m va ha ra v h he hv hh => by
    unfold acall at he
    unfold jcall
    cases hm : mt m with
    | none => rw [hm] at he; cases he
    | some q =>
      rw [hm] at he
      simp only [] at he ⊢
      rw [Bool.cond_eq_ite] at he
      split at he
      · rename_i hb
        rw [Bool.and_eq_true] at hb
        rw [if_pos ⟨by rw [← f2_len hv]; exact eq_of_beq hb.1, by rw [g_sl hv]; exact Nat.le_of_ble_eq_true hb.2⟩]
        rcases Bool.eq_false_or_eq_true (m == 264) with hb9 | hb9
        · rw [hb9, cond_true] at he; cases he
        rw [hb9, cond_false] at he ⊢
        exact g_run hcs (g_call hcs F d) F (0, aargs 0 va, [], ha) _ _ ⟨rfl, g_args hv 0, trivial, hh⟩ he
      · cases he
end
section
/-! how the tables' rows are given -/
def jG : List Cond := lw_tbl.filter goodWord
theorem jg_in {w : Cond} (h : w ∈ lw_tbl) (hg : goodWord w = true) : w ∈ jG := List.mem_filter.mpr ⟨h, hg⟩
theorem jG_good : ∀ w ∈ jG, goodWord w = true := fun w h => (List.mem_filter.mp h).2
theorem jG_in : ∀ w ∈ jG, w ∈ lw_tbl := fun w h => (List.mem_filter.mp h).1
theorem jt_n {P : jI → Prop} {b : Bool} {l r : Option jI} (hl : ∀ x, l = some x → P x) (hr : ∀ x, r = some x → P x) : ∀ x, (bif b then l else r) = some x → P x := by
  cases b
  · exact hr
  · exact hl
theorem jt_l {P : Nat → jI → Prop} {pc k : Nat} {y : jI} (h : P k y) : ∀ x, (bif Nat.beq pc k then some y else none) = some x → P pc x := by
  intro x hx
  cases hb : Nat.beq pc k with
  | false => rw [hb] at hx; cases hx
  | true =>
    rw [hb] at hx
    cases hx
    rw [Nat.eq_of_beq_eq_true hb]
    exact h
section JO
variable {own : String} {ini : Prop} {mt : Nat → Option jM} {cc : ByteArray} {pc i a b c : Nat} {k : Int64}
theorem jmk {ins : Instr} {len : Nat} (hd : decode cc pc = .ok (ins, len)) (hl : jl ins len = true) (he : jext jG own ini mt pc (ins, len, a, b, c, k)) : jok jG own ini mt cc pc (ins, len, a, b, c, k) := And.intro hd (And.intro hl he)
theorem ok_get (hd : decode cc pc = .ok (.getfield i, 3)) (q : vw_C) (h1 : vwCl[a]? = some q) (h2 : b < q.2.2) (h3 : ∀ w ∈ u_ws q.1 q.2.1 q.2.2, w ∈ jG) (h4 : Cond.fieldLink own i (q.2.1 b).1 (q.2.1 b).2.1 (q.2.1 b).2.2.1 ∈ jG) : jok jG own ini mt cc pc (.getfield i, 3, a, b, 0, k) := jmk hd rfl (Or.inl (And.intro rfl (Exists.intro q (And.intro h1 (And.intro h2 (And.intro h3 h4))))))
theorem ok_getv (hd : decode cc pc = .ok (.getfield i, 3)) (h : Cond.fieldLink own i "java/lang/String" "value" "[B" ∈ jG) : jok jG own ini mt cc pc (.getfield i, 3, a, 0, 9, k) := jmk hd rfl (Or.inr (And.intro rfl (Or.inl (And.intro rfl h))))
theorem ok_getc (hd : decode cc pc = .ok (.getfield i, 3)) (h : Cond.fieldLink own i "java/lang/String" "coder" "B" ∈ jG) : jok jG own ini mt cc pc (.getfield i, 3, a, 1, 9, k) := jmk hd rfl (Or.inr (And.intro rfl (Or.inr (And.intro rfl h))))
theorem ok_gstz (hd : decode cc pc = .ok (.getstatic i, 3)) (h : Cond.fieldLink own i "java/lang/String" "COMPACT_STRINGS" "Z" ∈ jG) : jok jG own ini mt cc pc (.getstatic i, 3, a, 9, c, k) := jmk hd rfl (Or.inl (And.intro rfl h))
theorem ok_put (hd : decode cc pc = .ok (.putfield i, 3)) (q : vw_C) (ty0 : Nat → FieldType) (h1 : vwCl[a]? = some q) (h2 : b < q.2.2) (h3 : ∀ w ∈ u_ws q.1 q.2.1 q.2.2, w ∈ jG) (h4 : Cond.fieldLink own i (q.2.1 b).1 (q.2.1 b).2.1 (q.2.1 b).2.2.1 ∈ jG) (h5 : ∀ k, k < q.2.2 → parseFieldDescriptor (q.2.1 k).2.2.1 = some (ty0 k)) (h6 : ∀ x, x < q.2.2 → ∀ y, y < q.2.2 → x ≠ y → (q.2.1 x).2.1 ≠ (q.2.1 y).2.1) (h7 : jtyc c (ty0 b)) (h8 : (q.2.1 b).2.2.2 = false ∨ ((q.2.1 b).2.2.2 = true ∧ ini ∧ (q.2.1 b).1 = own)) : jok jG own ini mt cc pc (.putfield i, 3, a, b, c, k) := jmk hd rfl (Exists.intro q (Exists.intro ty0 (And.intro h1 (And.intro h2 (And.intro h3 (And.intro h4 (And.intro h5 (And.intro h6 (And.intro h7 h8)))))))))
theorem tc_0 : jtyc 0 .int := Or.inl (And.intro rfl rfl)
theorem tc_1 : jtyc 1 .boolean := Or.inr (Or.inl (And.intro rfl rfl))
theorem tc_o {n : String} : jtyc 2 (.object n) := Or.inr (Or.inr (And.intro rfl (Or.inl (Exists.intro n rfl))))
theorem tc_a {t : FieldType} : jtyc 2 (.array t) := Or.inr (Or.inr (And.intro rfl (Or.inr (Exists.intro t rfl))))
theorem ok_gst (hd : decode cc pc = .ok (.getstatic i, 3)) (q : String × String × List Int32) (h1 : jst[a]? = some q) (h2 : Cond.fieldLink own i q.1 q.2.1 "[I" ∈ jG) : jok jG own ini mt cc pc (.getstatic i, 3, a, 0, c, k) := jmk hd rfl (Or.inr (And.intro rfl (Exists.intro q (And.intro h1 h2))))
theorem ok_new (hd : decode cc pc = .ok (.new i, 3)) (q : vw_C) (ty0 : Nat → FieldType) (h1 : vwCl[a]? = some q) (h2 : ∀ w ∈ u_ws q.1 q.2.1 q.2.2, w ∈ jG) (h3 : ∀ k, k < q.2.2 → parseFieldDescriptor (q.2.1 k).2.2.1 = some (ty0 k)) (h4 : Cond.classLink own i q.1 ∈ jG) (h5 : Cond.instantiable q.1 q.2.2 ∈ jG) (h6 : Cond.initialized q.1 ∈ jG) (h7 : (jdf a).length = q.2.2) (h8 : ∀ j, j < q.2.2 → defaultValue (ty0 j) = vp_V (jdf a) j) : jok jG own ini mt cc pc (.new i, 3, a, b, c, k) := jmk hd rfl (Exists.intro q (Exists.intro ty0 (And.intro h1 (And.intro h2 (And.intro h3 (And.intro h4 (And.intro h5 (And.intro h6 (And.intro h7 h8)))))))))
theorem ok_nwa (hd : decode cc pc = .ok (.newarray .int, 2)) (h : Cond.arrayClass .int ∈ jG) : jok jG own ini mt cc pc (.newarray .int, 2, a, b, c, k) := jmk hd rfl (And.intro rfl h)
theorem ok_nwq (hd : decode cc pc = .ok (.anewarray i, 3)) (h : a = 2 ∨ a = 3) (h2 : Cond.classLink own i (jover a) ∈ jG) : jok jG own ini mt cc pc (.anewarray i, 3, a, b, c, k) := jmk hd rfl (And.intro h h2)
theorem ok_nwg (hd : decode cc pc = .ok (.multianewarray i 2, 4)) (h : Cond.classLink own i "[[I" ∈ jG) (h2 : Cond.arrayClass .int ∈ jG) : jok jG own ini mt cc pc (.multianewarray i 2, 4, a, b, c, k) := jmk hd rfl (And.intro rfl (And.intro h h2))
theorem ok_ldcI (hd : decode cc pc = .ok (.ldc i, 2)) (h : Cond.constant own i k.toInt32 ∈ jG) : jok jG own ini mt cc pc (.ldc i, 2, 0, b, c, k) := jmk hd rfl (Or.inl (And.intro rfl h))
theorem ok_ldcS (hd : decode cc pc = .ok (.ldc i, 2)) (z : Nat) (q : String × Nat × String) (h1 : jstr[z]? = some q) (h2 : q.1 = own) (h3 : q.2.1 = i) : jok jG own ini mt cc pc (.ldc i, 2, 1, 10 + z, c, k) := jmk hd rfl (Or.inr (And.intro rfl (Exists.intro z (Exists.intro q (And.intro rfl (And.intro h1 (And.intro h2 h3)))))))
theorem ok_ldcw (hd : decode cc pc = .ok (.ldc_w i, 3)) (h : Cond.constant own i k.toInt32 ∈ jG) : jok jG own ini mt cc pc (.ldc_w i, 3, a, b, c, k) := jmk hd rfl h
theorem ok_ldc2 (hd : decode cc pc = .ok (.ldc2_w i, 3)) (h : Cond.constantLong own i k ∈ jG) : jok jG own ini mt cc pc (.ldc2_w i, 3, a, b, c, k) := jmk hd rfl h
theorem ok_go {off : Int} (hd : decode cc pc = .ok (.goto off, 3)) (h : (pc : Int) + off = (a : Int)) : jok jG own ini mt cc pc (.goto off, 3, a, b, c, k) := jmk hd rfl h
theorem ok_if {off : Int} {q : ClassFile.Cond} (hd : decode cc pc = .ok (.ifCond q off, 3)) (h : (pc : Int) + off = (a : Int)) : jok jG own ini mt cc pc (.ifCond q off, 3, a, b, c, k) := jmk hd rfl h
theorem ok_icmp {off : Int} {q : ClassFile.Cond} (hd : decode cc pc = .ok (.if_icmp q off, 3)) (h : (pc : Int) + off = (a : Int)) : jok jG own ini mt cc pc (.if_icmp q off, 3, a, b, c, k) := jmk hd rfl h
theorem jcB {q : jM} {n : Nat} (h1 : Cond.code q.2.1 q.2.2.1 q.2.2.2.1 q.2.2.2.2.1 ∈ jG) (h2 : Cond.initialized q.2.1.cls ∈ jG) (h3 : q.2.1.cls ≠ "java/lang/invoke/MethodHandle") (h4 : q.2.1.cls ≠ "java/lang/invoke/VarHandle") (h5 : (parseMethodDescriptor q.2.1.desc).map (fun d => d.parameters.length) = some n) (h6 : q.2.2.2.1 ≤ 40) : jcalB jG q n := And.intro h1 (And.intro h2 (And.intro (And.intro h3 (And.intro h4 h5)) h6))
theorem ok_V (hd : decode cc pc = .ok (.invokevirtual i, 3)) (q : jM) (z : vw_C) (h1 : mt a = some q) (h2 : vwCl[c]? = some z) (h3 : z.1 = q.2.1.cls) (h4 : jcalB jG q (b - 1)) (h5 : 1 ≤ b) (h6 : Cond.methodLink own i q.2.1 ∈ jG) (h7 : Cond.instanceMethod q.2.1 ∈ jG) (h8 : Cond.selects q.2.1.cls q.2.1 q.2.1 ∈ jG) : jok jG own ini mt cc pc (.invokevirtual i, 3, a, b, c, 0) := jmk hd rfl (Or.inl (And.intro rfl (Exists.intro q (Exists.intro z (And.intro h1 (And.intro h2 (And.intro h3 (And.intro h4 (And.intro h5 (And.intro h6 (And.intro h7 h8)))))))))))
theorem ok_K (hd : decode cc pc = .ok (.invokevirtual i, 3)) (q : jM) (h1 : mt a = some q) (h3 : q.2.1.cls = "java/lang/String") (h4 : jcalB jG q (b - 1)) (h5 : 1 ≤ b) (h6 : Cond.methodLink own i q.2.1 ∈ jG) (h7 : Cond.instanceMethod q.2.1 ∈ jG) (h8 : Cond.selects q.2.1.cls q.2.1 q.2.1 ∈ jG) : jok jG own ini mt cc pc (.invokevirtual i, 3, a, b, c, 9) := jmk hd rfl (Or.inr (And.intro rfl (Exists.intro q (And.intro h1 (And.intro h3 (And.intro h4 (And.intro h5 (And.intro h6 (And.intro h7 h8)))))))))
theorem ok_S (hd : decode cc pc = .ok (.invokestatic i, 3)) (q : jM) (h1 : mt a = some q) (h4 : jcalB jG q b) (h6 : Cond.methodLink own i q.2.1 ∈ jG) (h7 : Cond.static q.2.1 ∈ jG) : jok jG own ini mt cc pc (.invokestatic i, 3, a, b, 0, k) := jmk hd rfl (Or.inr (And.intro rfl (Exists.intro q (And.intro h1 (And.intro h4 (And.intro h6 h7))))))
theorem ok_cpy (hd : decode cc pc = .ok (.invokestatic i, 3)) (h1 : Cond.methodLink own i arraycopyName ∈ jG) (h2 : Cond.native arraycopyName ∈ jG) (h3 : Cond.static arraycopyName ∈ jG) (h4 : Cond.initialized "java/lang/System" ∈ jG) : jok jG own ini mt cc pc (.invokestatic i, 3, a, b, 1, k) := jmk hd rfl (Or.inl (And.intro rfl (And.intro h1 (And.intro h2 (And.intro h3 h4)))))
theorem ok_obj (hd : decode cc pc = .ok (.invokespecial i, 3)) (h1 : Cond.methodLink own i objectInit ∈ jG) (h2 : Cond.instanceMethod objectInit ∈ jG) (h3 : Cond.code objectInit ⟨#[0xb1]⟩ 1 none ∈ jG) : jok jG own ini mt cc pc (.invokespecial i, 3, a, b, 1, k) := jmk hd rfl (Or.inl (And.intro rfl (And.intro h1 (And.intro h2 h3))))
theorem ok_I (hd : decode cc pc = .ok (.invokespecial i, 3)) (q : jM) (h1 : mt a = some q) (h4 : jcalB jG q (b - 1)) (h5 : 1 ≤ b) (h6 : q.2.1.name = "<init>") (h7 : q.2.2.2.2.1 = none) (h8 : Cond.instanceMethod q.2.1 ∈ jG) (h9 : Cond.methodLink own i q.2.1 ∈ jG ∨ ∃ (k : Nat) (host : String), jnest[k]? = some (own, i, q.2.1, host)) : jok jG own ini mt cc pc (.invokespecial i, 3, a, b, 0, k) := jmk hd rfl (Or.inr (And.intro rfl (Exists.intro q (And.intro h1 (And.intro h4 (And.intro h5 (And.intro h6 (And.intro h7 (And.intro h8 h9)))))))))
end JO
end
section
/-! the rows of a method, read all at once -/
theorem jft : ¬ false = true := by decide
def jchk (cc : ByteArray) (pc : Nat) (x : jI) : Bool := match decode cc pc with
  | .ok y => decide (y = (x.1, x.2.1))
  | .error _ => false
theorem jchk_d {cc : ByteArray} {pc : Nat} {x : jI} (h : jchk cc pc x = true) : decode cc pc = .ok (x.1, x.2.1) := by
  unfold jchk at h
  cases e : decode cc pc with
  | ok y =>
    rw [e] at h
    have h : decide (y = (x.1, x.2.1)) = true := h
    rw [of_decide_eq_true h]
  | error z =>
    rw [e] at h
    have h : false = true := h
    exact absurd h jft
def jpln (pc : Nat) (x : jI) : Bool := match x.1 with
  | .ldc _ | .ldc_w _ | .ldc2_w _ | .getfield _ | .putfield _ | .getstatic _ | .new _ | .newarray _ | .anewarray _ | .multianewarray .. | .invokevirtual _ | .invokespecial _ | .invokestatic _ => false
  | .goto off => decide ((pc : Int) + off = (x.2.2.1 : Int))
  | .ifCond _ off => decide ((pc : Int) + off = (x.2.2.1 : Int))
  | .if_icmp _ off => decide ((pc : Int) + off = (x.2.2.1 : Int))
  | _ => true
theorem jpln_e {G : List Cond} {own : String} {ini : Prop} {mt : Nat → Option jM} {pc : Nat} {x : jI} (h : jpln pc x = true) : jext G own ini mt pc x := by
  obtain ⟨ins, len, a, b, c, k⟩ := x
  cases ins with
  | goto off => exact of_decide_eq_true (p := (pc : Int) + off = (a : Int)) h
  | ifCond q off => exact of_decide_eq_true (p := (pc : Int) + off = (a : Int)) h
  | if_icmp q off => exact of_decide_eq_true (p := (pc : Int) + off = (a : Int)) h
  | _ => first | exact True.intro | exact absurd h jft
def jmem : List Nat → Nat → Bool
  | [], _ => false
  | a :: l, p => Nat.beq a p || jmem l p
theorem jmem_app {k : Nat} : ∀ (a b : List Nat), jmem (a ++ b) k = (jmem a k || jmem b k)
  | [], b => rfl
  | x :: a, b => by
    show (Nat.beq x k || jmem (a ++ b) k) = ((Nat.beq x k || jmem a k) || jmem b k)
    rw [jmem_app a b, Bool.or_assoc]
def jall (f : Nat → Bool) : Nat → Bool
  | 0 => true
  | n + 1 => f n && jall f n
theorem jall_of {f : Nat → Bool} : ∀ (n : Nat), jall f n = true → ∀ i, i < n → f i = true
  | 0, _, i, h => absurd h (Nat.not_lt_zero i)
  | n + 1, e, i, h => by
    have e : (f n && jall f n) = true := e
    rw [Bool.and_eq_true] at e
    by_cases hi : i = n
    · rw [hi]; exact e.1
    · exact jall_of n e.2 i (by omega)
def jrow1 (cc : ByteArray) (sp : List Nat) (pc : Nat) : Option jI → Bool
  | none => true
  | some x => jchk cc pc x && (jl x.1 x.2.1 && (jpln pc x || jmem sp pc))
theorem jbn {b : Bool} {r : Option jI} (h : b = false) : (bif b then r else none) = none := by rw [h]; rfl
def jallr (f : Nat → Bool) (a : Nat) : Nat → Bool
  | 0 => true
  | n + 1 => f (a + n) && jallr f a n
theorem jcat {f : Nat → Bool} {a : Nat} (h : ∀ i, i < a → f i = true) : ∀ n, jallr f a n = true → ∀ i, i < a + n → f i = true
  | 0, _ => fun i hi => h i hi
  | n + 1, e => fun i hi => by
    have e : (f (a + n) && jallr f a n) = true := e
    rw [Bool.and_eq_true] at e
    by_cases hz : i = a + n
    · rw [hz]; exact e.1
    · exact jcat h n e.2 i (by omega)
theorem jz_of2 {t : Nat → Option jI} {cc : ByteArray} {own : String} {ini : Prop} {mt : Nat → Option jM} {N : Nat} {sp : List Nat} (hN : ∀ pc, Nat.blt pc N = false → t pc = none) (hc : ∀ pc, pc < N → (fun pc => jrow1 cc sp pc (t pc)) pc = true) (hs : ∀ k, jmem sp k = true → ∀ x, t k = some x → decode cc k = .ok (x.1, x.2.1) → jok jG own ini mt cc k x) : ∀ pc x, t pc = some x → jok jG own ini mt cc pc x := by
  intro pc x hx
  cases hb : Nat.blt pc N with
  | false => rw [hN pc hb] at hx; cases hx
  | true =>
    have h : jrow1 cc sp pc (t pc) = true := hc pc (Nat.le_of_ble_eq_true hb)
    rw [hx] at h
    have h : (jchk cc pc x && (jl x.1 x.2.1 && (jpln pc x || jmem sp pc))) = true := h
    rw [Bool.and_eq_true, Bool.and_eq_true, Bool.or_eq_true] at h
    obtain ⟨h1, h2, h3⟩ := h
    rcases h3 with h3 | h3
    · exact ⟨jchk_d h1, h2, jpln_e h3⟩
    · exact hs pc h3 x hx (jchk_d h1)
theorem jz_of {t : Nat → Option jI} {cc : ByteArray} {own : String} {ini : Prop} {mt : Nat → Option jM} {N : Nat} {sp : List Nat} (hN : ∀ pc, Nat.blt pc N = false → t pc = none) (hc : jall (fun pc => jrow1 cc sp pc (t pc)) N = true) (hs : ∀ k, jmem sp k = true → ∀ x, t k = some x → decode cc k = .ok (x.1, x.2.1) → jok jG own ini mt cc k x) : ∀ pc x, t pc = some x → jok jG own ini mt cc pc x := jz_of2 hN (fun pc h => jall_of N hc pc h) hs
theorem jn0 {Q : Nat → Prop} : ∀ k, jmem [] k = true → Q k := fun _ h => absurd (show false = true from h) jft
theorem jn1 {Q : Nat → Prop} {a : Nat} {l : List Nat} (h : Q a) (t : ∀ k, jmem l k = true → Q k) : ∀ k, jmem (a :: l) k = true → Q k := fun k hk => by
  have hk : (Nat.beq a k || jmem l k) = true := hk
  rw [Bool.or_eq_true] at hk
  rcases hk with hk | hk
  · rw [← Nat.eq_of_beq_eq_true hk]; exact h
  · exact t k hk
theorem jna {Q : Nat → Prop} {a b : List Nat} (h : ∀ k, jmem a k = true → Q k) (t : ∀ k, jmem b k = true → Q k) : ∀ k, jmem (a ++ b) k = true → Q k := fun k hk => by
  rw [jmem_app, Bool.or_eq_true] at hk
  rcases hk with hk | hk
  · exact h k hk
  · exact t k hk
theorem jrw {t : Nat → Option jI} {k : Nat} {y : jI} {P : jI → Prop} {cc : ByteArray} (h : t k = some y) (p : decode cc k = .ok (y.1, y.2.1) → P y) : ∀ x, t k = some x → decode cc k = .ok (x.1, x.2.1) → P x := fun x hx hd => by
  rw [h] at hx
  cases hx
  exact p hd
end
section
/-! AN INSTRUCTION READ FROM THE BYTES THAT STAND THERE: printed by wip/gen/gen_rowkit3.py -/
def Bt (cc : ByteArray) (p v : Nat) : Prop := ∃ h : p < cc.size, (cc[p]'h).toNat = v
theorem dk_u1 {cc : ByteArray} {p v : Nat} (h : Bt cc p v) : (Reader.u1 : Decoder Nat) cc p = .ok (v, p + 1) := by
  obtain ⟨h, rfl⟩ := h
  unfold Reader.u1
  show (dite (p < cc.size) (fun h => ((do set (p + 1); Pure.pure (cc[p]'h).toNat) : Decoder Nat)) (fun _ => throw (HasTruncated.truncated p))) cc p = _
  rw [dif_pos h]
  rfl
theorem dk_b {α β : Type} {cc : ByteArray} {p q : Nat} {a : α} {x : Decoder α} {k : α → Decoder β} (h : x cc p = .ok (a, q)) : (x >>= k) cc p = k a cc q := by
  have e : (x >>= k) cc p = Except.bind (x cc p) (fun y => k y.1 cc y.2) := rfl
  rw [e, h]
  rfl
theorem dk_m {α β : Type} {cc : ByteArray} {p q : Nat} {a : α} {f : α → β} {x : Decoder α} (h : x cc p = .ok (a, q)) : (f <$> x) cc p = .ok (f a, q) := by
  have e : (f <$> x) cc p = Except.bind (x cc p) (fun y => .ok (f y.1, y.2)) := rfl
  rw [e, h]
  rfl
theorem dk_s1 {cc : ByteArray} {p v : Nat} (h : Bt cc p v) : (Reader.s1 : Decoder Int) cc p = .ok (Reader.signed 8 v, p + 1) := dk_m (dk_u1 h)
theorem dk_u2 {cc : ByteArray} {p x y : Nat} (h : Bt cc p x) (h1 : Bt cc (p + 1) y) : (Reader.u2 : Decoder Nat) cc p = .ok (x * 256 + y, p + 2) := (dk_b (dk_u1 h)).trans ((dk_b (dk_u1 h1)).trans rfl)
theorem dk_s2 {cc : ByteArray} {p x y : Nat} (h : Bt cc p x) (h1 : Bt cc (p + 1) y) : (Reader.s2 : Decoder Int) cc p = .ok (Reader.signed 16 (x * 256 + y), p + 2) := dk_m (dk_u2 h h1)
theorem dk_d {cc : ByteArray} {pc n : Nat} {i : Instr} (h : Decoder.instr pc cc pc = .ok (i, pc + n)) : decode cc pc = .ok (i, n) := by
  have e : decode cc pc = Except.bind (Decoder.instr pc cc pc) (fun y => .ok (y.1, y.2 - pc)) := rfl
  rw [e, h]
  show Except.ok (i, pc + n - pc) = _
  rw [Nat.add_sub_cancel_left]
abbrev jKo : Type := Instr ⊕ ((Nat → Instr) ⊕ ((Int → Instr) ⊕ ((Nat → Instr) ⊕ ((Int → Instr) ⊕ (Nat → Int → Instr)))))
def KOk' (k : Nat → Decoder Instr) (b : Nat) : jKo → Prop
  | .inl i => k b = Pure.pure i
  | .inr (.inl f) => k b = (Reader.u1 >>= fun x => Pure.pure (f x))
  | .inr (.inr (.inl f)) => k b = (Reader.s1 >>= fun x => Pure.pure (f x))
  | .inr (.inr (.inr (.inl f))) => k b = (Reader.u2 >>= fun x => Pure.pure (f x))
  | .inr (.inr (.inr (.inr (.inl f)))) => k b = (Reader.s2 >>= fun x => Pure.pure (f x))
  | .inr (.inr (.inr (.inr (.inr f)))) => k b = (Reader.u1 >>= fun x => Reader.s1 >>= fun y => Pure.pure (f x y))
def KOk (b : Nat) (K : jKo) : Prop := ∀ pc, ∃ k : Nat → Decoder Instr, Decoder.instr pc = (Reader.u1 >>= k) ∧ KOk' k b K
theorem jop_l {n c : Nat} {K0 : jKo} (p : KOk c K0) {K : jKo} : (bif Nat.beq n c then some K0 else none) = some K → KOk n K := by
  cases hb : Nat.beq n c with
  | false =>
    intro h
    have h : (none : Option jKo) = some K := h
    cases h
  | true =>
    intro h
    have h : some K0 = some K := h
    cases h
    rw [Nat.eq_of_beq_eq_true hb]
    exact p
theorem jop_n {c : Bool} {n : Nat} {l r : Option jKo} {K : jKo} (hl : l = some K → KOk n K) (hr : r = some K → KOk n K) : (bif c then l else r) = some K → KOk n K := by
  cases c
  · exact hr
  · exact hl
noncomputable def jo_2 : jKo := (.inl (.iconst (-1) : Instr))
theorem jp_2 : KOk 2 jo_2 := fun _ => ⟨_, rfl, rfl⟩
noncomputable def jo_3 : jKo := (.inl (.iconst (0) : Instr))
theorem jp_3 : KOk 3 jo_3 := fun _ => ⟨_, rfl, rfl⟩
noncomputable def jo_4 : jKo := (.inl (.iconst (1) : Instr))
theorem jp_4 : KOk 4 jo_4 := fun _ => ⟨_, rfl, rfl⟩
noncomputable def jo_5 : jKo := (.inl (.iconst (2) : Instr))
theorem jp_5 : KOk 5 jo_5 := fun _ => ⟨_, rfl, rfl⟩
noncomputable def jo_6 : jKo := (.inl (.iconst (3) : Instr))
theorem jp_6 : KOk 6 jo_6 := fun _ => ⟨_, rfl, rfl⟩
noncomputable def jo_7 : jKo := (.inl (.iconst (4) : Instr))
theorem jp_7 : KOk 7 jo_7 := fun _ => ⟨_, rfl, rfl⟩
noncomputable def jo_8 : jKo := (.inl (.iconst (5) : Instr))
theorem jp_8 : KOk 8 jo_8 := fun _ => ⟨_, rfl, rfl⟩
noncomputable def jo_9 : jKo := (.inl (.lconst 0 : Instr))
theorem jp_9 : KOk 9 jo_9 := fun _ => ⟨_, rfl, rfl⟩
noncomputable def jo_10 : jKo := (.inl (.lconst 1 : Instr))
theorem jp_10 : KOk 10 jo_10 := fun _ => ⟨_, rfl, rfl⟩
noncomputable def jo_16 : jKo := (.inr (.inr (.inl (fun x => .bipush x : Int → Instr))))
theorem jp_16 : KOk 16 jo_16 := fun _ => ⟨_, rfl, rfl⟩
noncomputable def jo_17 : jKo := (.inr (.inr (.inr (.inr (.inl (fun x => .sipush x : Int → Instr))))))
theorem jp_17 : KOk 17 jo_17 := fun _ => ⟨_, rfl, rfl⟩
noncomputable def jo_18 : jKo := (.inr (.inl (fun x => .ldc x : Nat → Instr)))
theorem jp_18 : KOk 18 jo_18 := fun _ => ⟨_, rfl, rfl⟩
noncomputable def jo_19 : jKo := (.inr (.inr (.inr (.inl (fun x => .ldc_w x : Nat → Instr)))))
theorem jp_19 : KOk 19 jo_19 := fun _ => ⟨_, rfl, rfl⟩
noncomputable def jo_20 : jKo := (.inr (.inr (.inr (.inl (fun x => .ldc2_w x : Nat → Instr)))))
theorem jp_20 : KOk 20 jo_20 := fun _ => ⟨_, rfl, rfl⟩
noncomputable def jo_21 : jKo := (.inr (.inl (fun x => .iload x : Nat → Instr)))
theorem jp_21 : KOk 21 jo_21 := fun _ => ⟨_, rfl, rfl⟩
noncomputable def jo_22 : jKo := (.inr (.inl (fun x => .lload x : Nat → Instr)))
theorem jp_22 : KOk 22 jo_22 := fun _ => ⟨_, rfl, rfl⟩
noncomputable def jo_25 : jKo := (.inr (.inl (fun x => .aload x : Nat → Instr)))
theorem jp_25 : KOk 25 jo_25 := fun _ => ⟨_, rfl, rfl⟩
noncomputable def jo_26 : jKo := (.inl (.iload_n 0 : Instr))
theorem jp_26 : KOk 26 jo_26 := fun _ => ⟨_, rfl, rfl⟩
noncomputable def jo_27 : jKo := (.inl (.iload_n 1 : Instr))
theorem jp_27 : KOk 27 jo_27 := fun _ => ⟨_, rfl, rfl⟩
noncomputable def jo_28 : jKo := (.inl (.iload_n 2 : Instr))
theorem jp_28 : KOk 28 jo_28 := fun _ => ⟨_, rfl, rfl⟩
noncomputable def jo_29 : jKo := (.inl (.iload_n 3 : Instr))
theorem jp_29 : KOk 29 jo_29 := fun _ => ⟨_, rfl, rfl⟩
noncomputable def jo_30 : jKo := (.inl (.lload_n 0 : Instr))
theorem jp_30 : KOk 30 jo_30 := fun _ => ⟨_, rfl, rfl⟩
noncomputable def jo_31 : jKo := (.inl (.lload_n 1 : Instr))
theorem jp_31 : KOk 31 jo_31 := fun _ => ⟨_, rfl, rfl⟩
noncomputable def jo_32 : jKo := (.inl (.lload_n 2 : Instr))
theorem jp_32 : KOk 32 jo_32 := fun _ => ⟨_, rfl, rfl⟩
noncomputable def jo_33 : jKo := (.inl (.lload_n 3 : Instr))
theorem jp_33 : KOk 33 jo_33 := fun _ => ⟨_, rfl, rfl⟩
noncomputable def jo_42 : jKo := (.inl (.aload_n 0 : Instr))
theorem jp_42 : KOk 42 jo_42 := fun _ => ⟨_, rfl, rfl⟩
noncomputable def jo_43 : jKo := (.inl (.aload_n 1 : Instr))
theorem jp_43 : KOk 43 jo_43 := fun _ => ⟨_, rfl, rfl⟩
noncomputable def jo_44 : jKo := (.inl (.aload_n 2 : Instr))
theorem jp_44 : KOk 44 jo_44 := fun _ => ⟨_, rfl, rfl⟩
noncomputable def jo_45 : jKo := (.inl (.aload_n 3 : Instr))
theorem jp_45 : KOk 45 jo_45 := fun _ => ⟨_, rfl, rfl⟩
noncomputable def jo_46 : jKo := (.inl (.iaload : Instr))
theorem jp_46 : KOk 46 jo_46 := fun _ => ⟨_, rfl, rfl⟩
noncomputable def jo_50 : jKo := (.inl (.aaload : Instr))
theorem jp_50 : KOk 50 jo_50 := fun _ => ⟨_, rfl, rfl⟩
noncomputable def jo_51 : jKo := (.inl (.baload : Instr))
theorem jp_51 : KOk 51 jo_51 := fun _ => ⟨_, rfl, rfl⟩
noncomputable def jo_54 : jKo := (.inr (.inl (fun x => .istore x : Nat → Instr)))
theorem jp_54 : KOk 54 jo_54 := fun _ => ⟨_, rfl, rfl⟩
noncomputable def jo_55 : jKo := (.inr (.inl (fun x => .lstore x : Nat → Instr)))
theorem jp_55 : KOk 55 jo_55 := fun _ => ⟨_, rfl, rfl⟩
noncomputable def jo_58 : jKo := (.inr (.inl (fun x => .astore x : Nat → Instr)))
theorem jp_58 : KOk 58 jo_58 := fun _ => ⟨_, rfl, rfl⟩
noncomputable def jo_59 : jKo := (.inl (.istore_n 0 : Instr))
theorem jp_59 : KOk 59 jo_59 := fun _ => ⟨_, rfl, rfl⟩
noncomputable def jo_60 : jKo := (.inl (.istore_n 1 : Instr))
theorem jp_60 : KOk 60 jo_60 := fun _ => ⟨_, rfl, rfl⟩
noncomputable def jo_61 : jKo := (.inl (.istore_n 2 : Instr))
theorem jp_61 : KOk 61 jo_61 := fun _ => ⟨_, rfl, rfl⟩
noncomputable def jo_62 : jKo := (.inl (.istore_n 3 : Instr))
theorem jp_62 : KOk 62 jo_62 := fun _ => ⟨_, rfl, rfl⟩
noncomputable def jo_63 : jKo := (.inl (.lstore_n 0 : Instr))
theorem jp_63 : KOk 63 jo_63 := fun _ => ⟨_, rfl, rfl⟩
noncomputable def jo_64 : jKo := (.inl (.lstore_n 1 : Instr))
theorem jp_64 : KOk 64 jo_64 := fun _ => ⟨_, rfl, rfl⟩
noncomputable def jo_65 : jKo := (.inl (.lstore_n 2 : Instr))
theorem jp_65 : KOk 65 jo_65 := fun _ => ⟨_, rfl, rfl⟩
noncomputable def jo_66 : jKo := (.inl (.lstore_n 3 : Instr))
theorem jp_66 : KOk 66 jo_66 := fun _ => ⟨_, rfl, rfl⟩
noncomputable def jo_75 : jKo := (.inl (.astore_n 0 : Instr))
theorem jp_75 : KOk 75 jo_75 := fun _ => ⟨_, rfl, rfl⟩
noncomputable def jo_76 : jKo := (.inl (.astore_n 1 : Instr))
theorem jp_76 : KOk 76 jo_76 := fun _ => ⟨_, rfl, rfl⟩
noncomputable def jo_77 : jKo := (.inl (.astore_n 2 : Instr))
theorem jp_77 : KOk 77 jo_77 := fun _ => ⟨_, rfl, rfl⟩
noncomputable def jo_78 : jKo := (.inl (.astore_n 3 : Instr))
theorem jp_78 : KOk 78 jo_78 := fun _ => ⟨_, rfl, rfl⟩
noncomputable def jo_79 : jKo := (.inl (.iastore : Instr))
theorem jp_79 : KOk 79 jo_79 := fun _ => ⟨_, rfl, rfl⟩
noncomputable def jo_83 : jKo := (.inl (.aastore : Instr))
theorem jp_83 : KOk 83 jo_83 := fun _ => ⟨_, rfl, rfl⟩
noncomputable def jo_87 : jKo := (.inl (.pop : Instr))
theorem jp_87 : KOk 87 jo_87 := fun _ => ⟨_, rfl, rfl⟩
noncomputable def jo_89 : jKo := (.inl (.dup : Instr))
theorem jp_89 : KOk 89 jo_89 := fun _ => ⟨_, rfl, rfl⟩
noncomputable def jo_92 : jKo := (.inl (.dup2 : Instr))
theorem jp_92 : KOk 92 jo_92 := fun _ => ⟨_, rfl, rfl⟩
noncomputable def jo_96 : jKo := (.inl (.iadd : Instr))
theorem jp_96 : KOk 96 jo_96 := fun _ => ⟨_, rfl, rfl⟩
noncomputable def jo_97 : jKo := (.inl (.ladd : Instr))
theorem jp_97 : KOk 97 jo_97 := fun _ => ⟨_, rfl, rfl⟩
noncomputable def jo_100 : jKo := (.inl (.isub : Instr))
theorem jp_100 : KOk 100 jo_100 := fun _ => ⟨_, rfl, rfl⟩
noncomputable def jo_101 : jKo := (.inl (.lsub : Instr))
theorem jp_101 : KOk 101 jo_101 := fun _ => ⟨_, rfl, rfl⟩
noncomputable def jo_104 : jKo := (.inl (.imul : Instr))
theorem jp_104 : KOk 104 jo_104 := fun _ => ⟨_, rfl, rfl⟩
noncomputable def jo_105 : jKo := (.inl (.lmul : Instr))
theorem jp_105 : KOk 105 jo_105 := fun _ => ⟨_, rfl, rfl⟩
noncomputable def jo_108 : jKo := (.inl (.idiv : Instr))
theorem jp_108 : KOk 108 jo_108 := fun _ => ⟨_, rfl, rfl⟩
noncomputable def jo_109 : jKo := (.inl (.ldiv : Instr))
theorem jp_109 : KOk 109 jo_109 := fun _ => ⟨_, rfl, rfl⟩
noncomputable def jo_112 : jKo := (.inl (.irem : Instr))
theorem jp_112 : KOk 112 jo_112 := fun _ => ⟨_, rfl, rfl⟩
noncomputable def jo_113 : jKo := (.inl (.lrem : Instr))
theorem jp_113 : KOk 113 jo_113 := fun _ => ⟨_, rfl, rfl⟩
noncomputable def jo_116 : jKo := (.inl (.ineg : Instr))
theorem jp_116 : KOk 116 jo_116 := fun _ => ⟨_, rfl, rfl⟩
noncomputable def jo_117 : jKo := (.inl (.lneg : Instr))
theorem jp_117 : KOk 117 jo_117 := fun _ => ⟨_, rfl, rfl⟩
noncomputable def jo_120 : jKo := (.inl (.ishl : Instr))
theorem jp_120 : KOk 120 jo_120 := fun _ => ⟨_, rfl, rfl⟩
noncomputable def jo_121 : jKo := (.inl (.lshl : Instr))
theorem jp_121 : KOk 121 jo_121 := fun _ => ⟨_, rfl, rfl⟩
noncomputable def jo_122 : jKo := (.inl (.ishr : Instr))
theorem jp_122 : KOk 122 jo_122 := fun _ => ⟨_, rfl, rfl⟩
noncomputable def jo_123 : jKo := (.inl (.lshr : Instr))
theorem jp_123 : KOk 123 jo_123 := fun _ => ⟨_, rfl, rfl⟩
noncomputable def jo_124 : jKo := (.inl (.iushr : Instr))
theorem jp_124 : KOk 124 jo_124 := fun _ => ⟨_, rfl, rfl⟩
noncomputable def jo_125 : jKo := (.inl (.lushr : Instr))
theorem jp_125 : KOk 125 jo_125 := fun _ => ⟨_, rfl, rfl⟩
noncomputable def jo_126 : jKo := (.inl (.iand : Instr))
theorem jp_126 : KOk 126 jo_126 := fun _ => ⟨_, rfl, rfl⟩
noncomputable def jo_127 : jKo := (.inl (.land : Instr))
theorem jp_127 : KOk 127 jo_127 := fun _ => ⟨_, rfl, rfl⟩
noncomputable def jo_128 : jKo := (.inl (.ior : Instr))
theorem jp_128 : KOk 128 jo_128 := fun _ => ⟨_, rfl, rfl⟩
noncomputable def jo_129 : jKo := (.inl (.lor : Instr))
theorem jp_129 : KOk 129 jo_129 := fun _ => ⟨_, rfl, rfl⟩
noncomputable def jo_130 : jKo := (.inl (.ixor : Instr))
theorem jp_130 : KOk 130 jo_130 := fun _ => ⟨_, rfl, rfl⟩
noncomputable def jo_131 : jKo := (.inl (.lxor : Instr))
theorem jp_131 : KOk 131 jo_131 := fun _ => ⟨_, rfl, rfl⟩
noncomputable def jo_132 : jKo := (.inr (.inr (.inr (.inr (.inr (fun x y => .iinc x y : Nat → Int → Instr))))))
theorem jp_132 : KOk 132 jo_132 := fun _ => ⟨_, rfl, rfl⟩
noncomputable def jo_133 : jKo := (.inl (.i2l : Instr))
theorem jp_133 : KOk 133 jo_133 := fun _ => ⟨_, rfl, rfl⟩
noncomputable def jo_136 : jKo := (.inl (.l2i : Instr))
theorem jp_136 : KOk 136 jo_136 := fun _ => ⟨_, rfl, rfl⟩
noncomputable def jo_145 : jKo := (.inl (.i2b : Instr))
theorem jp_145 : KOk 145 jo_145 := fun _ => ⟨_, rfl, rfl⟩
noncomputable def jo_146 : jKo := (.inl (.i2c : Instr))
theorem jp_146 : KOk 146 jo_146 := fun _ => ⟨_, rfl, rfl⟩
noncomputable def jo_147 : jKo := (.inl (.i2s : Instr))
theorem jp_147 : KOk 147 jo_147 := fun _ => ⟨_, rfl, rfl⟩
noncomputable def jo_148 : jKo := (.inl (.lcmp : Instr))
theorem jp_148 : KOk 148 jo_148 := fun _ => ⟨_, rfl, rfl⟩
noncomputable def jo_153 : jKo := (.inr (.inr (.inr (.inr (.inl (fun x => .ifCond .eq x : Int → Instr))))))
theorem jp_153 : KOk 153 jo_153 := fun _ => ⟨_, rfl, rfl⟩
noncomputable def jo_154 : jKo := (.inr (.inr (.inr (.inr (.inl (fun x => .ifCond .ne x : Int → Instr))))))
theorem jp_154 : KOk 154 jo_154 := fun _ => ⟨_, rfl, rfl⟩
noncomputable def jo_155 : jKo := (.inr (.inr (.inr (.inr (.inl (fun x => .ifCond .lt x : Int → Instr))))))
theorem jp_155 : KOk 155 jo_155 := fun _ => ⟨_, rfl, rfl⟩
noncomputable def jo_156 : jKo := (.inr (.inr (.inr (.inr (.inl (fun x => .ifCond .ge x : Int → Instr))))))
theorem jp_156 : KOk 156 jo_156 := fun _ => ⟨_, rfl, rfl⟩
noncomputable def jo_157 : jKo := (.inr (.inr (.inr (.inr (.inl (fun x => .ifCond .gt x : Int → Instr))))))
theorem jp_157 : KOk 157 jo_157 := fun _ => ⟨_, rfl, rfl⟩
noncomputable def jo_158 : jKo := (.inr (.inr (.inr (.inr (.inl (fun x => .ifCond .le x : Int → Instr))))))
theorem jp_158 : KOk 158 jo_158 := fun _ => ⟨_, rfl, rfl⟩
noncomputable def jo_159 : jKo := (.inr (.inr (.inr (.inr (.inl (fun x => .if_icmp .eq x : Int → Instr))))))
theorem jp_159 : KOk 159 jo_159 := fun _ => ⟨_, rfl, rfl⟩
noncomputable def jo_160 : jKo := (.inr (.inr (.inr (.inr (.inl (fun x => .if_icmp .ne x : Int → Instr))))))
theorem jp_160 : KOk 160 jo_160 := fun _ => ⟨_, rfl, rfl⟩
noncomputable def jo_161 : jKo := (.inr (.inr (.inr (.inr (.inl (fun x => .if_icmp .lt x : Int → Instr))))))
theorem jp_161 : KOk 161 jo_161 := fun _ => ⟨_, rfl, rfl⟩
noncomputable def jo_162 : jKo := (.inr (.inr (.inr (.inr (.inl (fun x => .if_icmp .ge x : Int → Instr))))))
theorem jp_162 : KOk 162 jo_162 := fun _ => ⟨_, rfl, rfl⟩
noncomputable def jo_163 : jKo := (.inr (.inr (.inr (.inr (.inl (fun x => .if_icmp .gt x : Int → Instr))))))
theorem jp_163 : KOk 163 jo_163 := fun _ => ⟨_, rfl, rfl⟩
noncomputable def jo_164 : jKo := (.inr (.inr (.inr (.inr (.inl (fun x => .if_icmp .le x : Int → Instr))))))
theorem jp_164 : KOk 164 jo_164 := fun _ => ⟨_, rfl, rfl⟩
noncomputable def jo_167 : jKo := (.inr (.inr (.inr (.inr (.inl (fun x => .goto x : Int → Instr))))))
theorem jp_167 : KOk 167 jo_167 := fun _ => ⟨_, rfl, rfl⟩
noncomputable def jo_172 : jKo := (.inl (.ireturn : Instr))
theorem jp_172 : KOk 172 jo_172 := fun _ => ⟨_, rfl, rfl⟩
noncomputable def jo_173 : jKo := (.inl (.lreturn : Instr))
theorem jp_173 : KOk 173 jo_173 := fun _ => ⟨_, rfl, rfl⟩
noncomputable def jo_176 : jKo := (.inl (.areturn : Instr))
theorem jp_176 : KOk 176 jo_176 := fun _ => ⟨_, rfl, rfl⟩
noncomputable def jo_177 : jKo := (.inl (.return_ : Instr))
theorem jp_177 : KOk 177 jo_177 := fun _ => ⟨_, rfl, rfl⟩
noncomputable def jo_178 : jKo := (.inr (.inr (.inr (.inl (fun x => .getstatic x : Nat → Instr)))))
theorem jp_178 : KOk 178 jo_178 := fun _ => ⟨_, rfl, rfl⟩
noncomputable def jo_180 : jKo := (.inr (.inr (.inr (.inl (fun x => .getfield x : Nat → Instr)))))
theorem jp_180 : KOk 180 jo_180 := fun _ => ⟨_, rfl, rfl⟩
noncomputable def jo_181 : jKo := (.inr (.inr (.inr (.inl (fun x => .putfield x : Nat → Instr)))))
theorem jp_181 : KOk 181 jo_181 := fun _ => ⟨_, rfl, rfl⟩
noncomputable def jo_182 : jKo := (.inr (.inr (.inr (.inl (fun x => .invokevirtual x : Nat → Instr)))))
theorem jp_182 : KOk 182 jo_182 := fun _ => ⟨_, rfl, rfl⟩
noncomputable def jo_183 : jKo := (.inr (.inr (.inr (.inl (fun x => .invokespecial x : Nat → Instr)))))
theorem jp_183 : KOk 183 jo_183 := fun _ => ⟨_, rfl, rfl⟩
noncomputable def jo_184 : jKo := (.inr (.inr (.inr (.inl (fun x => .invokestatic x : Nat → Instr)))))
theorem jp_184 : KOk 184 jo_184 := fun _ => ⟨_, rfl, rfl⟩
noncomputable def jo_187 : jKo := (.inr (.inr (.inr (.inl (fun x => .new x : Nat → Instr)))))
theorem jp_187 : KOk 187 jo_187 := fun _ => ⟨_, rfl, rfl⟩
noncomputable def jo_189 : jKo := (.inr (.inr (.inr (.inl (fun x => .anewarray x : Nat → Instr)))))
theorem jp_189 : KOk 189 jo_189 := fun _ => ⟨_, rfl, rfl⟩
noncomputable def jo_190 : jKo := (.inl (.arraylength : Instr))
theorem jp_190 : KOk 190 jo_190 := fun _ => ⟨_, rfl, rfl⟩
noncomputable def jo_191 : jKo := (.inl (.athrow : Instr))
theorem jp_191 : KOk 191 jo_191 := fun _ => ⟨_, rfl, rfl⟩
noncomputable def jop (n : Nat) : Option jKo := (bif Nat.blt n 101 then (bif Nat.blt n 44 then (bif Nat.blt n 20 then (bif Nat.blt n 8 then (bif Nat.blt n 5 then (bif Nat.blt n 3 then (bif Nat.beq n 2 then some jo_2 else none) else (bif Nat.blt n 4 then (bif Nat.beq n 3 then some jo_3 else none) else (bif Nat.beq n 4 then some jo_4 else none))) else (bif Nat.blt n 6 then (bif Nat.beq n 5 then some jo_5 else none) else (bif Nat.blt n 7 then (bif Nat.beq n 6 then some jo_6 else none) else (bif Nat.beq n 7 then some jo_7 else none)))) else (bif Nat.blt n 16 then (bif Nat.blt n 9 then (bif Nat.beq n 8 then some jo_8 else none) else (bif Nat.blt n 10 then (bif Nat.beq n 9 then some jo_9 else none) else (bif Nat.beq n 10 then some jo_10 else none))) else (bif Nat.blt n 18 then (bif Nat.blt n 17 then (bif Nat.beq n 16 then some jo_16 else none) else (bif Nat.beq n 17 then some jo_17 else none)) else (bif Nat.blt n 19 then (bif Nat.beq n 18 then some jo_18 else none) else (bif Nat.beq n 19 then some jo_19 else none))))) else (bif Nat.blt n 29 then (bif Nat.blt n 25 then (bif Nat.blt n 21 then (bif Nat.beq n 20 then some jo_20 else none) else (bif Nat.blt n 22 then (bif Nat.beq n 21 then some jo_21 else none) else (bif Nat.beq n 22 then some jo_22 else none))) else (bif Nat.blt n 27 then (bif Nat.blt n 26 then (bif Nat.beq n 25 then some jo_25 else none) else (bif Nat.beq n 26 then some jo_26 else none)) else (bif Nat.blt n 28 then (bif Nat.beq n 27 then some jo_27 else none) else (bif Nat.beq n 28 then some jo_28 else none)))) else (bif Nat.blt n 32 then (bif Nat.blt n 30 then (bif Nat.beq n 29 then some jo_29 else none) else (bif Nat.blt n 31 then (bif Nat.beq n 30 then some jo_30 else none) else (bif Nat.beq n 31 then some jo_31 else none))) else (bif Nat.blt n 42 then (bif Nat.blt n 33 then (bif Nat.beq n 32 then some jo_32 else none) else (bif Nat.beq n 33 then some jo_33 else none)) else (bif Nat.blt n 43 then (bif Nat.beq n 42 then some jo_42 else none) else (bif Nat.beq n 43 then some jo_43 else none)))))) else (bif Nat.blt n 65 then (bif Nat.blt n 58 then (bif Nat.blt n 50 then (bif Nat.blt n 45 then (bif Nat.beq n 44 then some jo_44 else none) else (bif Nat.blt n 46 then (bif Nat.beq n 45 then some jo_45 else none) else (bif Nat.beq n 46 then some jo_46 else none))) else (bif Nat.blt n 54 then (bif Nat.blt n 51 then (bif Nat.beq n 50 then some jo_50 else none) else (bif Nat.beq n 51 then some jo_51 else none)) else (bif Nat.blt n 55 then (bif Nat.beq n 54 then some jo_54 else none) else (bif Nat.beq n 55 then some jo_55 else none)))) else (bif Nat.blt n 61 then (bif Nat.blt n 59 then (bif Nat.beq n 58 then some jo_58 else none) else (bif Nat.blt n 60 then (bif Nat.beq n 59 then some jo_59 else none) else (bif Nat.beq n 60 then some jo_60 else none))) else (bif Nat.blt n 63 then (bif Nat.blt n 62 then (bif Nat.beq n 61 then some jo_61 else none) else (bif Nat.beq n 62 then some jo_62 else none)) else (bif Nat.blt n 64 then (bif Nat.beq n 63 then some jo_63 else none) else (bif Nat.beq n 64 then some jo_64 else none))))) else (bif Nat.blt n 83 then (bif Nat.blt n 76 then (bif Nat.blt n 66 then (bif Nat.beq n 65 then some jo_65 else none) else (bif Nat.blt n 75 then (bif Nat.beq n 66 then some jo_66 else none) else (bif Nat.beq n 75 then some jo_75 else none))) else (bif Nat.blt n 78 then (bif Nat.blt n 77 then (bif Nat.beq n 76 then some jo_76 else none) else (bif Nat.beq n 77 then some jo_77 else none)) else (bif Nat.blt n 79 then (bif Nat.beq n 78 then some jo_78 else none) else (bif Nat.beq n 79 then some jo_79 else none)))) else (bif Nat.blt n 92 then (bif Nat.blt n 87 then (bif Nat.beq n 83 then some jo_83 else none) else (bif Nat.blt n 89 then (bif Nat.beq n 87 then some jo_87 else none) else (bif Nat.beq n 89 then some jo_89 else none))) else (bif Nat.blt n 97 then (bif Nat.blt n 96 then (bif Nat.beq n 92 then some jo_92 else none) else (bif Nat.beq n 96 then some jo_96 else none)) else (bif Nat.blt n 100 then (bif Nat.beq n 97 then some jo_97 else none) else (bif Nat.beq n 100 then some jo_100 else none))))))) else (bif Nat.blt n 148 then (bif Nat.blt n 124 then (bif Nat.blt n 113 then (bif Nat.blt n 108 then (bif Nat.blt n 104 then (bif Nat.beq n 101 then some jo_101 else none) else (bif Nat.blt n 105 then (bif Nat.beq n 104 then some jo_104 else none) else (bif Nat.beq n 105 then some jo_105 else none))) else (bif Nat.blt n 109 then (bif Nat.beq n 108 then some jo_108 else none) else (bif Nat.blt n 112 then (bif Nat.beq n 109 then some jo_109 else none) else (bif Nat.beq n 112 then some jo_112 else none)))) else (bif Nat.blt n 120 then (bif Nat.blt n 116 then (bif Nat.beq n 113 then some jo_113 else none) else (bif Nat.blt n 117 then (bif Nat.beq n 116 then some jo_116 else none) else (bif Nat.beq n 117 then some jo_117 else none))) else (bif Nat.blt n 122 then (bif Nat.blt n 121 then (bif Nat.beq n 120 then some jo_120 else none) else (bif Nat.beq n 121 then some jo_121 else none)) else (bif Nat.blt n 123 then (bif Nat.beq n 122 then some jo_122 else none) else (bif Nat.beq n 123 then some jo_123 else none))))) else (bif Nat.blt n 131 then (bif Nat.blt n 127 then (bif Nat.blt n 125 then (bif Nat.beq n 124 then some jo_124 else none) else (bif Nat.blt n 126 then (bif Nat.beq n 125 then some jo_125 else none) else (bif Nat.beq n 126 then some jo_126 else none))) else (bif Nat.blt n 129 then (bif Nat.blt n 128 then (bif Nat.beq n 127 then some jo_127 else none) else (bif Nat.beq n 128 then some jo_128 else none)) else (bif Nat.blt n 130 then (bif Nat.beq n 129 then some jo_129 else none) else (bif Nat.beq n 130 then some jo_130 else none)))) else (bif Nat.blt n 136 then (bif Nat.blt n 132 then (bif Nat.beq n 131 then some jo_131 else none) else (bif Nat.blt n 133 then (bif Nat.beq n 132 then some jo_132 else none) else (bif Nat.beq n 133 then some jo_133 else none))) else (bif Nat.blt n 146 then (bif Nat.blt n 145 then (bif Nat.beq n 136 then some jo_136 else none) else (bif Nat.beq n 145 then some jo_145 else none)) else (bif Nat.blt n 147 then (bif Nat.beq n 146 then some jo_146 else none) else (bif Nat.beq n 147 then some jo_147 else none)))))) else (bif Nat.blt n 172 then (bif Nat.blt n 159 then (bif Nat.blt n 155 then (bif Nat.blt n 153 then (bif Nat.beq n 148 then some jo_148 else none) else (bif Nat.blt n 154 then (bif Nat.beq n 153 then some jo_153 else none) else (bif Nat.beq n 154 then some jo_154 else none))) else (bif Nat.blt n 157 then (bif Nat.blt n 156 then (bif Nat.beq n 155 then some jo_155 else none) else (bif Nat.beq n 156 then some jo_156 else none)) else (bif Nat.blt n 158 then (bif Nat.beq n 157 then some jo_157 else none) else (bif Nat.beq n 158 then some jo_158 else none)))) else (bif Nat.blt n 162 then (bif Nat.blt n 160 then (bif Nat.beq n 159 then some jo_159 else none) else (bif Nat.blt n 161 then (bif Nat.beq n 160 then some jo_160 else none) else (bif Nat.beq n 161 then some jo_161 else none))) else (bif Nat.blt n 164 then (bif Nat.blt n 163 then (bif Nat.beq n 162 then some jo_162 else none) else (bif Nat.beq n 163 then some jo_163 else none)) else (bif Nat.blt n 167 then (bif Nat.beq n 164 then some jo_164 else none) else (bif Nat.beq n 167 then some jo_167 else none))))) else (bif Nat.blt n 182 then (bif Nat.blt n 177 then (bif Nat.blt n 173 then (bif Nat.beq n 172 then some jo_172 else none) else (bif Nat.blt n 176 then (bif Nat.beq n 173 then some jo_173 else none) else (bif Nat.beq n 176 then some jo_176 else none))) else (bif Nat.blt n 180 then (bif Nat.blt n 178 then (bif Nat.beq n 177 then some jo_177 else none) else (bif Nat.beq n 178 then some jo_178 else none)) else (bif Nat.blt n 181 then (bif Nat.beq n 180 then some jo_180 else none) else (bif Nat.beq n 181 then some jo_181 else none)))) else (bif Nat.blt n 187 then (bif Nat.blt n 183 then (bif Nat.beq n 182 then some jo_182 else none) else (bif Nat.blt n 184 then (bif Nat.beq n 183 then some jo_183 else none) else (bif Nat.beq n 184 then some jo_184 else none))) else (bif Nat.blt n 190 then (bif Nat.blt n 189 then (bif Nat.beq n 187 then some jo_187 else none) else (bif Nat.beq n 189 then some jo_189 else none)) else (bif Nat.blt n 191 then (bif Nat.beq n 190 then some jo_190 else none) else (bif Nat.beq n 191 then some jo_191 else none))))))))
theorem jop_ok {n : Nat} {K : jKo} : jop n = some K → KOk n K := (jop_n (jop_n (jop_n (jop_n (jop_n (jop_n (jop_l jp_2) (jop_n (jop_l jp_3) (jop_l jp_4))) (jop_n (jop_l jp_5) (jop_n (jop_l jp_6) (jop_l jp_7)))) (jop_n (jop_n (jop_l jp_8) (jop_n (jop_l jp_9) (jop_l jp_10))) (jop_n (jop_n (jop_l jp_16) (jop_l jp_17)) (jop_n (jop_l jp_18) (jop_l jp_19))))) (jop_n (jop_n (jop_n (jop_l jp_20) (jop_n (jop_l jp_21) (jop_l jp_22))) (jop_n (jop_n (jop_l jp_25) (jop_l jp_26)) (jop_n (jop_l jp_27) (jop_l jp_28)))) (jop_n (jop_n (jop_l jp_29) (jop_n (jop_l jp_30) (jop_l jp_31))) (jop_n (jop_n (jop_l jp_32) (jop_l jp_33)) (jop_n (jop_l jp_42) (jop_l jp_43)))))) (jop_n (jop_n (jop_n (jop_n (jop_l jp_44) (jop_n (jop_l jp_45) (jop_l jp_46))) (jop_n (jop_n (jop_l jp_50) (jop_l jp_51)) (jop_n (jop_l jp_54) (jop_l jp_55)))) (jop_n (jop_n (jop_l jp_58) (jop_n (jop_l jp_59) (jop_l jp_60))) (jop_n (jop_n (jop_l jp_61) (jop_l jp_62)) (jop_n (jop_l jp_63) (jop_l jp_64))))) (jop_n (jop_n (jop_n (jop_l jp_65) (jop_n (jop_l jp_66) (jop_l jp_75))) (jop_n (jop_n (jop_l jp_76) (jop_l jp_77)) (jop_n (jop_l jp_78) (jop_l jp_79)))) (jop_n (jop_n (jop_l jp_83) (jop_n (jop_l jp_87) (jop_l jp_89))) (jop_n (jop_n (jop_l jp_92) (jop_l jp_96)) (jop_n (jop_l jp_97) (jop_l jp_100))))))) (jop_n (jop_n (jop_n (jop_n (jop_n (jop_l jp_101) (jop_n (jop_l jp_104) (jop_l jp_105))) (jop_n (jop_l jp_108) (jop_n (jop_l jp_109) (jop_l jp_112)))) (jop_n (jop_n (jop_l jp_113) (jop_n (jop_l jp_116) (jop_l jp_117))) (jop_n (jop_n (jop_l jp_120) (jop_l jp_121)) (jop_n (jop_l jp_122) (jop_l jp_123))))) (jop_n (jop_n (jop_n (jop_l jp_124) (jop_n (jop_l jp_125) (jop_l jp_126))) (jop_n (jop_n (jop_l jp_127) (jop_l jp_128)) (jop_n (jop_l jp_129) (jop_l jp_130)))) (jop_n (jop_n (jop_l jp_131) (jop_n (jop_l jp_132) (jop_l jp_133))) (jop_n (jop_n (jop_l jp_136) (jop_l jp_145)) (jop_n (jop_l jp_146) (jop_l jp_147)))))) (jop_n (jop_n (jop_n (jop_n (jop_l jp_148) (jop_n (jop_l jp_153) (jop_l jp_154))) (jop_n (jop_n (jop_l jp_155) (jop_l jp_156)) (jop_n (jop_l jp_157) (jop_l jp_158)))) (jop_n (jop_n (jop_l jp_159) (jop_n (jop_l jp_160) (jop_l jp_161))) (jop_n (jop_n (jop_l jp_162) (jop_l jp_163)) (jop_n (jop_l jp_164) (jop_l jp_167))))) (jop_n (jop_n (jop_n (jop_l jp_172) (jop_n (jop_l jp_173) (jop_l jp_176))) (jop_n (jop_n (jop_l jp_177) (jop_l jp_178)) (jop_n (jop_l jp_180) (jop_l jp_181)))) (jop_n (jop_n (jop_l jp_182) (jop_n (jop_l jp_183) (jop_l jp_184))) (jop_n (jop_n (jop_l jp_187) (jop_l jp_189)) (jop_n (jop_l jp_190) (jop_l jp_191))))))))
def jd1 (f : Nat → Instr) : List UInt8 → Option (Instr × Nat)
  | [] => none
  | x :: _ => some (f x.toNat, 2)
def jd1s (f : Int → Instr) : List UInt8 → Option (Instr × Nat)
  | [] => none
  | x :: _ => some (f (Reader.signed 8 x.toNat), 2)
def jd2 (f : Nat → Instr) : List UInt8 → Option (Instr × Nat)
  | x :: y :: _ => some (f (x.toNat * 256 + y.toNat), 3)
  | _ => none
def jd2s (f : Int → Instr) : List UInt8 → Option (Instr × Nat)
  | x :: y :: _ => some (f (Reader.signed 16 (x.toNat * 256 + y.toNat)), 3)
  | _ => none
def jdi (f : Nat → Int → Instr) : List UInt8 → Option (Instr × Nat)
  | x :: y :: _ => some (f x.toNat (Reader.signed 8 y.toNat), 3)
  | _ => none
def jdk (r : List UInt8) : Option jKo → Option (Instr × Nat)
  | none => none
  | some (.inl i) => some (i, 1)
  | some (.inr (.inl f)) => jd1 f r
  | some (.inr (.inr (.inl f))) => jd1s f r
  | some (.inr (.inr (.inr (.inl f)))) => jd2 f r
  | some (.inr (.inr (.inr (.inr (.inl f))))) => jd2s f r
  | some (.inr (.inr (.inr (.inr (.inr f))))) => jdi f r
noncomputable def jdw : List UInt8 → Option (Instr × Nat)
  | [] => none
  | b :: r => jdk r (jop b.toNat)
theorem bt_of {cc : ByteArray} {pc : Nat} {b : UInt8} {r : List UInt8} (h : cc.data.toList.drop pc = b :: r) : Bt cc pc b.toNat ∧ cc.data.toList.drop (pc + 1) = r := by
  obtain ⟨⟨l⟩⟩ := cc
  have h : l.drop pc = b :: r := h
  have hl : pc < l.length := by
    refine Classical.byContradiction fun n => ?_
    rw [List.drop_eq_nil_of_le (by omega)] at h
    cases h
  rw [List.drop_eq_getElem_cons hl] at h
  injection h with h1 h2
  refine ⟨⟨hl, ?_⟩, h2⟩
  rw [← h1]
  rfl
theorem jdw_ok {cc : ByteArray} {pc : Nat} {w : List UInt8} {y : Instr × Nat} (hw : cc.data.toList.drop pc = w) (h : jdw w = some y) : decode cc pc = .ok y := by
  cases w with
  | nil =>
    have h : (none : Option (Instr × Nat)) = some y := h
    cases h
  | cons b r =>
    have h : jdk r (jop b.toNat) = some y := h
    obtain ⟨hb, hr⟩ := bt_of hw
    cases ho : jop b.toNat with
    | none =>
      rw [ho] at h
      have h : (none : Option (Instr × Nat)) = some y := h
      cases h
    | some K =>
      rw [ho] at h
      obtain ⟨k, k1, k2⟩ := jop_ok ho pc
      have st : Decoder.instr pc cc pc = k b.toNat cc (pc + 1) := by rw [k1]; exact dk_b (dk_u1 hb)
      rcases K with i | f | f | f | f | f
      · have h : some (i, 1) = some y := h
        have k2 : k b.toNat = Pure.pure i := k2
        cases h
        refine dk_d ?_
        rw [st, k2]
        rfl
      · have h : jd1 f r = some y := h
        have k2 : k b.toNat = (Reader.u1 >>= fun x => Pure.pure (f x)) := k2
        cases r with
        | nil =>
          have h : (none : Option (Instr × Nat)) = some y := h
          cases h
        | cons x r =>
          have h : some (f x.toNat, 2) = some y := h
          cases h
          obtain ⟨h1, _⟩ := bt_of hr
          refine dk_d ?_
          rw [st, k2]
          exact (dk_b (dk_u1 h1)).trans rfl
      · have h : jd1s f r = some y := h
        have k2 : k b.toNat = (Reader.s1 >>= fun x => Pure.pure (f x)) := k2
        cases r with
        | nil =>
          have h : (none : Option (Instr × Nat)) = some y := h
          cases h
        | cons x r =>
          have h : some (f (Reader.signed 8 x.toNat), 2) = some y := h
          cases h
          obtain ⟨h1, _⟩ := bt_of hr
          refine dk_d ?_
          rw [st, k2]
          exact (dk_b (dk_s1 h1)).trans rfl
      · have h : jd2 f r = some y := h
        have k2 : k b.toNat = (Reader.u2 >>= fun x => Pure.pure (f x)) := k2
        rcases r with _ | ⟨x, _ | ⟨z, r⟩⟩
        · have h : (none : Option (Instr × Nat)) = some y := h
          cases h
        · have h : (none : Option (Instr × Nat)) = some y := h
          cases h
        · have h : some (f (x.toNat * 256 + z.toNat), 3) = some y := h
          cases h
          obtain ⟨h1, hr⟩ := bt_of hr
          obtain ⟨h2, _⟩ := bt_of hr
          refine dk_d ?_
          rw [st, k2]
          exact (dk_b (dk_u2 h1 h2)).trans rfl
      · have h : jd2s f r = some y := h
        have k2 : k b.toNat = (Reader.s2 >>= fun x => Pure.pure (f x)) := k2
        rcases r with _ | ⟨x, _ | ⟨z, r⟩⟩
        · have h : (none : Option (Instr × Nat)) = some y := h
          cases h
        · have h : (none : Option (Instr × Nat)) = some y := h
          cases h
        · have h : some (f (Reader.signed 16 (x.toNat * 256 + z.toNat)), 3) = some y := h
          cases h
          obtain ⟨h1, hr⟩ := bt_of hr
          obtain ⟨h2, _⟩ := bt_of hr
          refine dk_d ?_
          rw [st, k2]
          exact (dk_b (dk_s2 h1 h2)).trans rfl
      · have h : jdi f r = some y := h
        have k2 : k b.toNat = (Reader.u1 >>= fun x => Reader.s1 >>= fun y => Pure.pure (f x y)) := k2
        rcases r with _ | ⟨x, _ | ⟨z, r⟩⟩
        · have h : (none : Option (Instr × Nat)) = some y := h
          cases h
        · have h : (none : Option (Instr × Nat)) = some y := h
          cases h
        · have h : some (f x.toNat (Reader.signed 8 z.toNat), 3) = some y := h
          cases h
          obtain ⟨h1, hr⟩ := bt_of hr
          obtain ⟨h2, _⟩ := bt_of hr
          refine dk_d ?_
          rw [st, k2]
          exact (dk_b (dk_u1 h1)).trans ((dk_b (dk_s1 h2)).trans rfl)
def jdq (a : Option (Instr × Nat)) (x : jI) : Bool := match a with
  | some y => decide (y = (x.1, x.2.1))
  | none => false
noncomputable def jwr (cc : ByteArray) (sp : List Nat) (w : List UInt8) (pc : Nat) : Option jI → Bool
  | none => true
  | some x => (jdq (jdw w) x || jchk cc pc x) && (jl x.1 x.2.1 && (jpln pc x || jmem sp pc))
noncomputable def jnx (ih : Nat → Bool) (pc : Nat) : Bool := @Nat.rec (fun _ => Bool) (ih 0) (fun n _ => ih (n + 1)) (pc + 1)
noncomputable def jwk (cc : ByteArray) (sp : List Nat) (t : Nat → Option jI) (l : List UInt8) : Nat → Bool := @List.rec UInt8 (fun _ => Nat → Bool) (fun _ => true) (fun b r ih pc => bif jwr cc sp (b :: r) pc (t pc) then jnx ih pc else false) l
theorem jwk_ok {cc : ByteArray} {sp : List Nat} {t : Nat → Option jI} : ∀ (l : List UInt8) (pc : Nat), jwk cc sp t l pc = true → ∀ i, i < l.length → jwr cc sp (l.drop i) (pc + i) (t (pc + i)) = true
  | [], _, _, i, h => absurd h (Nat.not_lt_zero i)
  | b :: r, pc, e, i, h => by
    have e : (bif jwr cc sp (b :: r) pc (t pc) then jwk cc sp t r (pc + 1) else false) = true := e
    cases hb : jwr cc sp (b :: r) pc (t pc) with
    | false =>
      rw [hb] at e
      have e : false = true := e
      exact absurd e jft
    | true =>
      rw [hb] at e
      have e : jwk cc sp t r (pc + 1) = true := e
      cases i with
      | zero => exact hb
      | succ i =>
        have k := jwk_ok r (pc + 1) e i (Nat.lt_of_succ_lt_succ h)
        rw [show pc + (i + 1) = pc + 1 + i by omega]
        exact k
theorem jz_of3 {t : Nat → Option jI} {cc : ByteArray} {own : String} {ini : Prop} {mt : Nat → Option jM} {N : Nat} {sp : List Nat} (hN : ∀ pc, Nat.blt pc N = false → t pc = none) (hl : Nat.ble N cc.data.toList.length = true) (hc : jwk cc sp t cc.data.toList 0 = true) (hs : ∀ k, jmem sp k = true → ∀ x, t k = some x → decode cc k = .ok (x.1, x.2.1) → jok jG own ini mt cc k x) : ∀ pc x, t pc = some x → jok jG own ini mt cc pc x := by
  intro pc x hx
  cases hb : Nat.blt pc N with
  | false => rw [hN pc hb] at hx; cases hx
  | true =>
    have hp : pc < N := Nat.le_of_ble_eq_true hb
    have h := jwk_ok _ 0 hc pc (Nat.lt_of_lt_of_le hp (Nat.le_of_ble_eq_true hl))
    rw [Nat.zero_add, hx] at h
    have h : ((jdq (jdw (cc.data.toList.drop pc)) x || jchk cc pc x) && (jl x.1 x.2.1 && (jpln pc x || jmem sp pc))) = true := h
    rw [Bool.and_eq_true, Bool.and_eq_true, Bool.or_eq_true, Bool.or_eq_true] at h
    obtain ⟨h1, h2, h3⟩ := h
    have hd : decode cc pc = .ok (x.1, x.2.1) := by
      rcases h1 with h1 | h1
      · cases hj : jdw (cc.data.toList.drop pc) with
        | none =>
          rw [hj] at h1
          have h1 : false = true := h1
          exact absurd h1 jft
        | some y =>
          rw [hj] at h1
          have h1 : decide (y = (x.1, x.2.1)) = true := h1
          rw [← of_decide_eq_true h1]
          exact jdw_ok rfl hj
      · exact jchk_d h1
    rcases h3 with h3 | h3
    · exact ⟨hd, h2, jpln_e h3⟩
    · exact hs pc h3 x hx hd
end
