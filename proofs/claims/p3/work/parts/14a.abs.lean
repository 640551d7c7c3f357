/-! A RUN OVER RANGES: ints as ranges, longs unknown; references exact. What it finds holds of every run within the ranges. -/
abbrev aI : Type := Int × Int
abbrev aV : Type := aI ⊕ Option Value
abbrev aE : Type := (Nat × List aV) ⊕ ((Nat × List aI) ⊕ (Nat × List (Option Nat)))
abbrev aC : Type := Nat × List (Nat × aV) × List aV × List aE
abbrev aR : Type := Option aV × List aE
abbrev aO : Type := Option (aC ⊕ aR)
def aT : aI := (-2147483648, 2147483647)
def aN (l h : Int) : aI := bif decide (-2147483648 ≤ l) && decide (h ≤ 2147483647) then (l, h) else aT
def aK (n : Int) : aI := (n, n)
def aX (X : aI) : Bool := X.1 == X.2
def aadd (X Y : aI) : aI := aN (X.1 + Y.1) (X.2 + Y.2)
def asub (X Y : aI) : aI := aN (X.1 - Y.2) (X.2 - Y.1)
def aneg (X : aI) : aI := aN (-X.2) (-X.1)
def amul (X Y : aI) : aI := bif aX X && aX Y then aN (X.1 * Y.1) (X.1 * Y.1) else aT
def aop (f : Int32 → Int32 → Int32) (X Y : aI) : aI := bif aX X && aX Y then aK (f (Int32.ofInt X.1) (Int32.ofInt Y.1)).toInt else aT
def aop1 (f : Int32 → Int32) (X : aI) : aI := bif aX X then aK (f (Int32.ofInt X.1)).toInt else aT
def aeq (X Y : aI) : Option Bool := bif decide (X.2 < Y.1) || decide (Y.2 < X.1) then some false else bif aX X && (aX Y && decide (X.1 = Y.1)) then some true else none
def alt (X Y : aI) : Option Bool := bif decide (X.2 < Y.1) then some true else bif decide (Y.2 ≤ X.1) then some false else none
def acond (c : ClassFile.Cond) (X Y : aI) : Option Bool := match c with
  | .eq => aeq X Y
  | .ne => (aeq X Y).map not
  | .lt => alt X Y
  | .ge => (alt X Y).map not
  | .gt => alt Y X
  | .le => (alt Y X).map not
def agv : List (Nat × aV) → Nat → Option aV
  | [], _ => none
  | q :: r, i => bif q.1 == i then some q.2 else agv r i
def acat : aV → Nat
  | .inl _ => 1
  | .inr none => 2
  | .inr (some v) => v.category
def aput (L : List (Nat × aV)) (i : Nat) (v : aV) : List (Nat × aV) := (i, v) :: L.filter (fun q => !(q.1 == i) && !(q.1 + 1 == i && acat q.2 == 2))
def aput2 (L : List (Nat × aV)) (i : Nat) (v : aV) : List (Nat × aV) := (i, v) :: L.filter (fun q => !(q.1 == i) && (!(q.1 == i + 1) && !(q.1 + 1 == i && acat q.2 == 2)))
/-- an exact place -/
def aix (X : aI) : Option Nat := bif aX X && decide (0 ≤ X.1) then some X.1.toNat else none
def ago (t : Nat) (L : List (Nat × aV)) (st : List aV) (h : List aE) : aO := some (.inl (t, L, st, h))
def aref (i : Nat) : aV := .inr (some (.ref i))
def aloadI (L : List (Nat × aV)) (i t : Nat) (st : List aV) (h : List aE) : aO := match agv L i with
  | some (.inl x) => ago t L (.inl x :: st) h
  | _ => none
def aloadL (L : List (Nat × aV)) (i t : Nat) (st : List aV) (h : List aE) : aO := match agv L i with
  | some (.inr none) => ago t L (.inr none :: st) h
  | _ => none
def aloadA (L : List (Nat × aV)) (i t : Nat) (st : List aV) (h : List aE) : aO := match agv L i with
  | some (.inr (some (.ref x))) => ago t L (aref x :: st) h
  | _ => none
def astoreI (nL : Nat) (L : List (Nat × aV)) (i t : Nat) (st : List aV) (h : List aE) : aO := match st with
  | .inl x :: r => bif Nat.blt i nL then ago t (aput L i (.inl x)) r h else none
  | _ => none
def astoreA (nL : Nat) (L : List (Nat × aV)) (i t : Nat) (st : List aV) (h : List aE) : aO := match st with
  | .inr (some (.ref x)) :: r => bif Nat.blt i nL then ago t (aput L i (aref x)) r h else none
  | _ => none
def astoreL (nL : Nat) (L : List (Nat × aV)) (i t : Nat) (st : List aV) (h : List aE) : aO := match st with
  | .inr none :: r => bif Nat.blt (i + 1) nL then ago t (aput2 L i (.inr none)) r h else none
  | _ => none
def abin (f : aI → aI → aI) (t : Nat) (L : List (Nat × aV)) (st : List aV) (h : List aE) : aO := match st with
  | .inl y :: .inl x :: r => ago t L (.inl (f x y) :: r) h
  | _ => none
def aun (f : aI → aI) (t : Nat) (L : List (Nat × aV)) (st : List aV) (h : List aE) : aO := match st with
  | .inl x :: r => ago t L (.inl (f x) :: r) h
  | _ => none
def abinL (t : Nat) (L : List (Nat × aV)) (st : List aV) (h : List aE) : aO := match st with
  | .inr none :: .inr none :: r => ago t L (.inr none :: r) h
  | _ => none
def ashL (t : Nat) (L : List (Nat × aV)) (st : List aV) (h : List aE) : aO := match st with
  | .inl _ :: .inr none :: r => ago t L (.inr none :: r) h
  | _ => none
def aints (cs : Nat → Option (List aI)) (h : List aE) (i : Nat) : Option (List aI) := bif Nat.blt i jK0 then (match h[i]? with
  | some (.inr (.inl a)) => bif a.1 == 0 then some a.2 else none
  | _ => none) else cs (i - jK0)
def aiald (cs : Nat → Option (List aI)) (t : Nat) (L : List (Nat × aV)) (st : List aV) (h : List aE) : aO := match st with
  | .inl j :: .inr (some (.ref i)) :: r => match aix j with
    | some k => match aints cs h i with
      | some l => match l[k]? with
        | some x => ago t L (.inl x :: r) h
        | none => none
      | none => none
    | none => none
  | _ => none
def aiast (t : Nat) (L : List (Nat × aV)) (st : List aV) (h : List aE) : aO := match st with
  | .inl x :: .inl j :: .inr (some (.ref i)) :: r => match aix j with
    | some k => match h[i]? with
      | some (.inr (.inl a)) => bif a.1 == 0 && Nat.blt k a.2.length then ago t L r (h.set i (.inr (.inl (0, a.2.set k x)))) else none
      | _ => none
    | none => none
  | _ => none
def aaald (t : Nat) (L : List (Nat × aV)) (st : List aV) (h : List aE) : aO := match st with
  | .inl j :: .inr (some (.ref i)) :: r => match aix j with
    | some k => match h[i]? with
      | some (.inr (.inr a)) => bif a.1 == 1 || (a.1 == 2 || a.1 == 3) then (match a.2[k]? with
        | some (some q) => ago t L (aref q :: r) h
        | _ => none) else none
      | _ => none
    | none => none
  | _ => none
def amay (h : List aE) (k q : Nat) : Bool := bif k == 3 then Nat.ble (jK0 + 10) q && Nat.blt q (jK0 + 17) else bif k == 2 then (match h[q]? with
  | some (.inl o) => o.1 == 4
  | _ => false) else false
def aaast (t : Nat) (L : List (Nat × aV)) (st : List aV) (h : List aE) : aO := match st with
  | .inr (some (.ref q)) :: .inl j :: .inr (some (.ref i)) :: r => match aix j with
    | some k => match h[i]? with
      | some (.inr (.inr a)) => bif amay h a.1 q && Nat.blt k a.2.length then ago t L r (h.set i (.inr (.inr (a.1, a.2.set k (some q))))) else none
      | _ => none
    | none => none
  | _ => none
def aalen (cs : Nat → Option (List aI)) (t : Nat) (L : List (Nat × aV)) (st : List aV) (h : List aE) : aO := match st with
  | .inr (some (.ref i)) :: r => match aints cs h i with
    | some l => ago t L (.inl (aK (Int32.ofNat l.length).toInt) :: r) h
    | none => none
  | _ => none
def agetf (ci k t : Nat) (L : List (Nat × aV)) (st : List aV) (h : List aE) : aO := match st with
  | .inr (some (.ref i)) :: r => match h[i]? with
    | some (.inl o) => bif o.1 == ci then (match o.2[k]? with
      | some v => ago t L (v :: r) h
      | none => none) else none
    | _ => none
  | _ => none
def afit (ty : Nat) (v : aV) : Bool := match v with
  | .inl X => ty == 0 || (ty == 1 && (decide (0 ≤ X.1) && decide (X.2 ≤ 1)))
  | .inr (some (.ref _)) => ty == 2
  | _ => false
def aputf (ci k ty t : Nat) (L : List (Nat × aV)) (st : List aV) (h : List aE) : aO := match st with
  | v :: .inr (some (.ref i)) :: r => match h[i]? with
    | some (.inl o) => bif o.1 == ci && (Nat.blt k o.2.length && afit ty v) then ago t L r (h.set i (.inl (ci, o.2.set k v))) else none
    | _ => none
  | _ => none
def aof : Value → aV
  | .int x => .inl (aK x.toInt)
  | .long _ => .inr none
  | v => .inr (some v)
def anew (ci t : Nat) (dfl : List Value) (L : List (Nat × aV)) (st : List aV) (h : List aE) : aO := bif Nat.blt h.length jK0 then ago t L (aref h.length :: st) (h ++ [.inl (ci, dfl.map aof)]) else none
def anewa (t : Nat) (L : List (Nat × aV)) (st : List aV) (h : List aE) : aO := match st with
  | .inl n :: r => match aix n with
    | some k => bif Nat.ble k 100000 && Nat.blt h.length jK0 then ago t L (aref h.length :: r) (h ++ [.inr (.inl (0, List.replicate k (0, 0)))]) else none
    | none => none
  | _ => none
def anewq (z t : Nat) (L : List (Nat × aV)) (st : List aV) (h : List aE) : aO := match st with
  | .inl n :: r => match aix n with
    | some k => bif Nat.ble k 100000 && Nat.blt h.length jK0 then ago t L (aref h.length :: r) (h ++ [.inr (.inr (z, List.replicate k none))]) else none
    | none => none
  | _ => none
def anewg (z t : Nat) (L : List (Nat × aV)) (st : List aV) (h : List aE) : aO := match st with
  | .inl y :: .inl n :: r => match aix n, aix y with
    | some k, some j => bif Nat.ble k 1000 && (Nat.ble j 1000 && Nat.blt (h.length + 1 + k) jK0) then ago t L (aref h.length :: r) (h ++ (.inr (.inr (z, (List.range k).map (fun i => some (h.length + 1 + i)))) :: List.replicate k (.inr (.inl (0, List.replicate j (0, 0)))))) else none
    | _, _ => none
  | _ => none
def ainv (call : Nat → List aV → List aE → Option aR) (a n t : Nat) (L : List (Nat × aV)) (st : List aV) (h : List aE) : aO := bif Nat.ble n st.length && Nat.ble ((st.drop n).map acat).sum 8 then (match call a (st.take n).reverse h with
  | some (some v, h') => ago t L (v :: st.drop n) h'
  | some (none, h') => ago t L (st.drop n) h'
  | none => none) else none
def ainvV (call : Nat → List aV → List aE → Option aR) (a n ci t : Nat) (L : List (Nat × aV)) (st : List aV) (h : List aE) : aO := match (st.take n).reverse with
  | .inr (some (.ref i)) :: _ => match h[i]? with
    | some (.inl o) => bif o.1 == ci then ainv call a n t L st h else none
    | _ => none
  | _ => none
def ainvI (call : Nat → List aV → List aE → Option aR) (a n t : Nat) (L : List (Nat × aV)) (st : List aV) (h : List aE) : aO := match (st.take n).reverse with
  | .inr (some (.ref _)) :: _ => ainv call a n t L st h
  | _ => none
def acpy (f g : List aI) (sp dp n : Nat) : List aI := (List.range g.length).map (fun k => if dp ≤ k ∧ k < dp + n then f.getD (sp + (k - dp)) (0, 0) else g.getD k (0, 0))
def acopy (t : Nat) (L : List (Nat × aV)) (st : List aV) (h : List aE) : aO := match st with
  | .inl n :: .inl dp :: .inr (some (.ref d)) :: .inl sp :: .inr (some (.ref q)) :: r => match aix n, aix dp, aix sp with
    | some n, some dp, some sp => match h[q]?, h[d]? with
      | some (.inr (.inl f)), some (.inr (.inl g)) => bif f.1 == 0 && (g.1 == 0 && (Nat.ble (sp + n) f.2.length && (Nat.ble (dp + n) g.2.length && Nat.ble (r.map acat).sum 8))) then ago t L r (h.set d (.inr (.inl (0, acpy f.2 g.2 sp dp n)))) else none
      | _, _ => none
    | _, _, _ => none
  | _ => none
def atsw (dflt lo hi : Int) (offs : List Int) (pc : Nat) (L : List (Nat × aV)) (st : List aV) (h : List aE) : aO := match st with
  | .inl x :: r => bif decide (x.2 < lo) || decide (hi < x.1) then (bif decide (0 ≤ (pc : Int) + dflt) then ago ((pc : Int) + dflt).toNat L r h else none) else bif aX x && (decide (lo ≤ x.1) && decide (x.1 ≤ hi)) then (match offs[(x.1 - lo).toNat]? with
    | some o => bif decide (0 ≤ (pc : Int) + o) then ago ((pc : Int) + o).toNat L r h else none
    | none => none) else none
  | _ => none
def alsw (dflt : Int) (ps : List (Int × Int)) (pc : Nat) (L : List (Nat × aV)) (st : List aV) (h : List aE) : aO := match st with
  | .inl x :: r => bif aX x && ((ps.zip (ps.drop 1)).all (fun (a, next) => a.1 < next.1) && decide (0 ≤ (pc : Int) + Op.lookupswitch.offset ps dflt x.1)) then ago ((pc : Int) + Op.lookupswitch.offset ps dflt x.1).toNat L r h else none
  | _ => none
def aret (ret : Option FieldType) (st : List aV) (h : List aE) : aO := match st with
  | [.inl v] => match ret with
    | some .int => some (.inr (some (.inl v), h))
    | some .boolean => bif decide (0 ≤ v.1) && decide (v.2 ≤ 1) then some (.inr (some (.inl v), h)) else none
    | _ => none
  | _ => none
def aretA (ret : Option FieldType) (st : List aV) (h : List aE) : aO := match st with
  | [.inr (some (.ref v))] => match ret with
    | some (.object _) => some (.inr (some (aref v), h))
    | _ => none
  | _ => none
def aretL (ret : Option FieldType) (st : List aV) (h : List aE) : aO := match st with
  | [.inr none] => match ret with
    | some .long => some (.inr (some (.inr none), h))
    | _ => none
  | _ => none
def aretV (ret : Option FieldType) (st : List aV) (h : List aE) : aO := match st with
  | [] => match ret with
    | none => some (.inr (none, h))
    | _ => none
  | _ => none
def aif (c : ClassFile.Cond) (a t : Nat) (L : List (Nat × aV)) (st : List aV) (h : List aE) : aO := match st with
  | .inl x :: r => match acond c x (0, 0) with
    | some true => ago a L r h
    | some false => ago t L r h
    | none => none
  | _ => none
def aicmp (c : ClassFile.Cond) (a t : Nat) (L : List (Nat × aV)) (st : List aV) (h : List aE) : aO := match st with
  | .inl y :: .inl x :: r => match acond c x y with
    | some true => ago a L r h
    | some false => ago t L r h
    | none => none
  | _ => none
def aexec (cs : Nat → Option (List aI)) (call : Nat → List aV → List aE → Option aR) (nL : Nat) (ret : Option FieldType) (x : jI) (pc : Nat) (L : List (Nat × aV)) (st : List aV) (h : List aE) : aO := match x with
  | (ins, _, a, b, c, k) => match ins with
    | .iconst n => ago (pc + 1) L (.inl (aK (Int32.ofInt n).toInt) :: st) h
    | .bipush n => ago (pc + 2) L (.inl (aK (Int8.ofInt n).toInt32.toInt) :: st) h
    | .sipush n => ago (pc + 3) L (.inl (aK (Int16.ofInt n).toInt32.toInt) :: st) h
    | .lconst _ => ago (pc + 1) L (.inr none :: st) h
    | .ldc _ => bif a == 0 then ago (pc + 2) L (.inl (aK k.toInt32.toInt) :: st) h else ago (pc + 2) L (aref (jK0 + b) :: st) h
    | .ldc_w _ => ago (pc + 3) L (.inl (aK k.toInt32.toInt) :: st) h
    | .ldc2_w _ => ago (pc + 3) L (.inr none :: st) h
    | .iload_n i => aloadI L i (pc + 1) st h
    | .iload i => aloadI L i (pc + 2) st h
    | .lload_n i => aloadL L i (pc + 1) st h
    | .lload i => aloadL L i (pc + 2) st h
    | .aload_n i => aloadA L i (pc + 1) st h
    | .aload i => aloadA L i (pc + 2) st h
    | .istore_n i => astoreI nL L i (pc + 1) st h
    | .istore i => astoreI nL L i (pc + 2) st h
    | .astore_n i => astoreA nL L i (pc + 1) st h
    | .astore i => astoreA nL L i (pc + 2) st h
    | .lstore_n i => astoreL nL L i (pc + 1) st h
    | .lstore i => astoreL nL L i (pc + 2) st h
    | .iinc i n => match agv L i with
      | some (.inl x) => bif Nat.blt i nL then ago (pc + 3) (aput L i (.inl (aadd x (aK (Int32.ofInt n).toInt)))) st h else none
      | _ => none
    | .iadd => abin aadd (pc + 1) L st h
    | .isub => abin asub (pc + 1) L st h
    | .imul => abin amul (pc + 1) L st h
    | .iand => abin (aop (fun x y => x &&& y)) (pc + 1) L st h
    | .ior => abin (aop (fun x y => x ||| y)) (pc + 1) L st h
    | .ixor => abin (aop (fun x y => x ^^^ y)) (pc + 1) L st h
    | .ishl => abin (aop (fun x y => x <<< (y &&& 31))) (pc + 1) L st h
    | .ishr => abin (aop (fun x y => x >>> (y &&& 31))) (pc + 1) L st h
    | .iushr => abin (aop (fun x y => (x.toUInt32 >>> (y.toUInt32 &&& Int32.toUInt32 31)).toInt32)) (pc + 1) L st h
    | .iaload => aiald cs (pc + 1) L st h
    | .iastore => aiast (pc + 1) L st h
    | .aaload => aaald (pc + 1) L st h
    | .aastore => aaast (pc + 1) L st h
    | .arraylength => aalen cs (pc + 1) L st h
    | .ineg => aun aneg (pc + 1) L st h
    | .i2b => aun (aop1 (fun x => x.toInt8.toInt32)) (pc + 1) L st h
    | .i2s => aun (aop1 (fun x => x.toInt16.toInt32)) (pc + 1) L st h
    | .i2c => aun (aop1 (fun x => (x.toUInt32 % 65536).toInt32)) (pc + 1) L st h
    | .ladd => abinL (pc + 1) L st h
    | .lmul => abinL (pc + 1) L st h
    | .land => abinL (pc + 1) L st h
    | .lor => abinL (pc + 1) L st h
    | .lshl => ashL (pc + 1) L st h
    | .lshr => ashL (pc + 1) L st h
    | .lushr => ashL (pc + 1) L st h
    | .i2l => match st with
      | .inl _ :: r => ago (pc + 1) L (.inr none :: r) h
      | _ => none
    | .l2i => match st with
      | .inr none :: r => ago (pc + 1) L (.inl aT :: r) h
      | _ => none
    | .idiv => match st with
      | .inl y :: .inl x :: r => bif decide (0 < y.1) || decide (y.2 < 0) then ago (pc + 1) L (.inl (aop (fun x y => x / y) x y) :: r) h else none
      | _ => none
    | .irem => match st with
      | .inl y :: .inl x :: r => bif decide (0 < y.1) || decide (y.2 < 0) then ago (pc + 1) L (.inl (aop (fun x y => x - x / y * y) x y) :: r) h else none
      | _ => none
    | .dup => match st with
      | .inl x :: r => ago (pc + 1) L (.inl x :: .inl x :: r) h
      | .inr (some (.ref x)) :: r => ago (pc + 1) L (aref x :: aref x :: r) h
      | _ => none
    | .pop => match st with
      | .inl _ :: r => ago (pc + 1) L r h
      | .inr (some (.ref _)) :: r => ago (pc + 1) L r h
      | _ => none
    | .dup2 => match st with
      | .inl y :: .inr (some (.ref x)) :: r => ago (pc + 1) L (.inl y :: aref x :: .inl y :: aref x :: r) h
      | .inl y :: .inl x :: r => ago (pc + 1) L (.inl y :: .inl x :: .inl y :: .inl x :: r) h
      | _ => none
    | .goto _ => ago a L st h
    | .ifCond q _ => aif q a (pc + 3) L st h
    | .if_icmp q _ => aicmp q a (pc + 3) L st h
    | .tableswitch d lo hi offs => atsw d lo hi offs.toList pc L st h
    | .lookupswitch d ps => alsw d ps.toList pc L st h
    | .getfield _ => bif c == 9 then none else agetf a b (pc + 3) L st h
    | .putfield _ => aputf a b c (pc + 3) L st h
    | .getstatic _ => bif b == 9 then none else ago (pc + 3) L (aref (jK0 + a) :: st) h
    | .new _ => anew a (pc + 3) (jdf a) L st h
    | .newarray _ => anewa (pc + 2) L st h
    | .anewarray _ => anewq a (pc + 3) L st h
    | .multianewarray _ _ => anewg 1 (pc + 4) L st h
    | .invokevirtual _ => bif k == 9 then none else ainvV call a b c (pc + 3) L st h
    | .invokespecial _ => bif c == 1 then (match st with
      | .inr (some (.ref _)) :: r => bif Nat.ble (r.map acat).sum 8 then ago (pc + 3) L r h else none
      | _ => none) else ainvI call a b (pc + 3) L st h
    | .invokestatic _ => bif c == 1 then acopy (pc + 3) L st h else ainv call a b (pc + 3) L st h
    | .ireturn => aret ret st h
    | .areturn => aretA ret st h
    | .return_ => aretV ret st h
    | .lreturn => aretL ret st h
    | _ => none
def arun (cs : Nat → Option (List aI)) (call : Nat → List aV → List aE → Option aR) (nL : Nat) (ret : Option FieldType) (tab : Nat → Option jI) : Nat → aC → Option aR
  | 0, _ => none
  | f + 1, c => match tab c.1 with
    | none => none
    | some x => match aexec cs call nL ret x c.1 c.2.1 c.2.2.1 c.2.2.2 with
      | none => none
      | some (.inl c') => arun cs call nL ret tab f c'
      | some (.inr r) => some r
def asl (vs : List aV) : Nat := (vs.map acat).sum
def aargs : Nat → List aV → List (Nat × aV)
  | _, [] => []
  | i, v :: vs => (i, v) :: aargs (if acat v = 2 then i + 2 else i + 1) vs
def acall (mt : Nat → Option jM) (cs : Nat → Option (List aI)) (F : Nat) : Nat → Nat → List aV → List aE → Option aR
  | 0, _, _, _ => none
  | d + 1, a, vs, h => match mt a with
    | none => none
    | some q => bif vs.length == q.2.2.2.2.2.1 && Nat.ble (asl vs) q.2.2.2.1 then (bif a == 264 then none else arun cs (acall mt cs F d) q.2.2.2.1 q.2.2.2.2.1 q.1 F (0, aargs 0 vs, [], h)) else none
