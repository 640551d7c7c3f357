/-! THE SAME RUN, FORCED STEP BY STEP (so that the kernel's terms stay small) -/
def acpyS (f g : List aI) (sp dp n : Nat) : List aI := g.take dp ++ ((f.drop sp).take n ++ g.drop (dp + n))
def acopyS (t : Nat) (L : List (Nat × aV)) (st : List aV) (h : List aE) : aO := match st with
  | .inl n :: .inl dp :: .inr (some (.ref d)) :: .inl sp :: .inr (some (.ref q)) :: r => match aix n, aix dp, aix sp with
    | some n, some dp, some sp => match h[q]?, h[d]? with
      | some (.inr (.inl f)), some (.inr (.inl g)) => bif f.1 == 0 && (g.1 == 0 && (Nat.ble (sp + n) f.2.length && (Nat.ble (dp + n) g.2.length && Nat.ble (r.map acat).sum 8))) then ago t L r (h.set d (.inr (.inl (0, acpyS f.2 g.2 sp dp n)))) else none
      | _, _ => none
    | _, _, _ => none
  | _ => none
theorem agetD {l : List aI} {i : Nat} {d : aI} (h : i < l.length) : l.getD i d = l[i] := by
  simp [List.getD, h]
theorem acpyS_eq {f g : List aI} {sp dp n : Nat} (h1 : sp + n ≤ f.length) (h2 : dp + n ≤ g.length) : acpyS f g sp dp n = acpy f g sp dp n := by
  unfold acpyS acpy
  have l1 : (g.take dp).length = dp := by rw [List.length_take]; omega
  have l2 : ((f.drop sp).take n).length = n := by rw [List.length_take, List.length_drop]; omega
  have l3 : (g.drop (dp + n)).length = g.length - (dp + n) := List.length_drop
  apply List.ext_getElem
  · rw [List.length_append, List.length_append, l1, l2, l3, List.length_map, List.length_range]
    omega
  · intro i hi hj
    rw [List.length_map, List.length_range] at hj
    rw [List.getElem_map, List.getElem_range]
    by_cases c1 : i < dp
    · rw [List.getElem_append_left (by omega), List.getElem_take, if_neg (by omega), agetD hj]
    · rw [List.getElem_append_right (by omega)]
      by_cases c2 : i < dp + n
      · rw [List.getElem_append_left (by omega), List.getElem_take, List.getElem_drop, if_pos (by omega), agetD (l := f) (i := sp + (i - dp)) (by omega)]
        congr 1
        omega
      · rw [List.getElem_append_right (by omega), List.getElem_drop, if_neg (by omega), agetD hj]
        congr 1
        omega
theorem acopyS_eq (t : Nat) (L : List (Nat × aV)) (st : List aV) (h : List aE) : acopyS t L st h = acopy t L st h := by
  unfold acopyS acopy
  split
  · rename_i n dp d sp q r
    simp only []
    cases h1 : aix n with
    | none => rfl
    | some n =>
      cases h2 : aix dp with
      | none => rfl
      | some dp =>
        cases h3 : aix sp with
        | none => rfl
        | some sp =>
          simp only []
          cases h[q]? with
          | none => rfl
          | some e =>
            cases h[d]? with
            | none => cases e with
              | inl _ => rfl
              | inr e => cases e <;> rfl
            | some e2 =>
              cases e with
              | inl _ => rfl
              | inr e => cases e with
                | inr _ => rfl
                | inl f => cases e2 with
                  | inl _ => rfl
                  | inr e2 => cases e2 with
                    | inr _ => rfl
                    | inl g =>
                      simp only []
                      cases hb : (f.1 == 0 && (g.1 == 0 && (Nat.ble (sp + n) f.2.length && (Nat.ble (dp + n) g.2.length && Nat.ble (r.map acat).sum 8)))) with
                      | false => rfl
                      | true =>
                        rw [Bool.and_eq_true, Bool.and_eq_true, Bool.and_eq_true, Bool.and_eq_true] at hb
                        rw [acpyS_eq (Nat.le_of_ble_eq_true hb.2.2.1) (Nat.le_of_ble_eq_true hb.2.2.2.1)]
  · rename_i hx
    split
    · exact absurd rfl (hx _ _ _ _ _ _)
    · rfl
/-- the place k of a list, and a list with another at k, by one plain recursion -/
noncomputable def agq {α : Type} (l : List α) : Nat → Option α := List.rec (motive := fun _ => Nat → Option α) (fun _ => none) (fun x _ ih n => Nat.rec (motive := fun _ => Option α) (some x) (fun m _ => ih m) n) l
theorem agq_eq {α : Type} : ∀ (l : List α) (n : Nat), agq l n = l[n]?
  | [], n => rfl
  | x :: r, 0 => rfl
  | x :: r, n + 1 => by
    show agq r n = _
    rw [agq_eq r n]
    rfl
noncomputable def apq {α β : Type} (v : α) (no : β) (l : List α) : Nat → (List α → β) → β := List.rec (motive := fun _ => Nat → (List α → β) → β) (fun _ _ => no) (fun x r ih n k => Nat.rec (motive := fun _ => β) (k (v :: r)) (fun m _ => ih m (fun r => k (x :: r))) n) l
theorem apq_eq {α β : Type} (v : α) (no : β) : ∀ (l : List α) (n : Nat) (k : List α → β), apq v no l n k = bif Nat.blt n l.length then k (l.set n v) else no
  | [], n, k => rfl
  | x :: r, 0, k => rfl
  | x :: r, n + 1, k => by
    show apq v no r n (fun r => k (x :: r)) = _
    rw [apq_eq v no r n]
    rfl
noncomputable def aialdS (cs : Nat → Option (List aI)) (t : Nat) (L : List (Nat × aV)) (st : List aV) (h : List aE) : aO := match st with
  | .inl j :: .inr (some (.ref i)) :: r => match aix j with
    | some k => bif Nat.blt i jK0 then (match agq h i with
      | some (.inr (.inl a)) => bif a.1 == 0 then (match agq a.2 k with
        | some x => ago t L (.inl x :: r) h
        | none => none) else none
      | _ => none) else (match cs (i - jK0) with
      | some l => match agq l k with
        | some x => ago t L (.inl x :: r) h
        | none => none
      | none => none)
    | none => none
  | _ => none
theorem aialdS_eq (cs : Nat → Option (List aI)) (t : Nat) (L : List (Nat × aV)) (st : List aV) (h : List aE) : aialdS cs t L st h = aiald cs t L st h := by
  unfold aialdS aiald
  split
  · rename_i j i r
    simp only [agq_eq]
    cases aix j with
    | none => rfl
    | some k =>
      simp only [aints]
      cases Nat.blt i jK0 with
      | false => rfl
      | true =>
        simp only [cond_true]
        cases h[i]? with
        | none => rfl
        | some e =>
          match e with
          | .inl _ => rfl
          | .inr (.inr _) => rfl
          | .inr (.inl a) =>
            simp only []
            cases (a.1 == 0) <;> rfl
  · rename_i hx
    split
    · exact absurd rfl (hx _ _ _)
    · rfl
noncomputable def aiastS (t : Nat) (L : List (Nat × aV)) (st : List aV) (h : List aE) : aO := match st with
  | .inl x :: .inl j :: .inr (some (.ref i)) :: r => match aix j with
    | some k => match agq h i with
      | some (.inr (.inl a)) => bif a.1 == 0 then apq x none a.2 k (fun l => apq (.inr (.inl (0, l))) none h i (fun h => ago t L r h)) else none
      | _ => none
    | none => none
  | _ => none
theorem aiastS_eq (t : Nat) (L : List (Nat × aV)) (st : List aV) (h : List aE) : aiastS t L st h = aiast t L st h := by
  unfold aiastS aiast
  split
  · rename_i x j i r
    simp only [agq_eq]
    cases aix j with
    | none => rfl
    | some k =>
      simp only []
      cases he : h[i]? with
      | none => rfl
      | some e =>
        match e, he with
        | .inl _, he => rfl
        | .inr (.inr _), he => rfl
        | .inr (.inl a), he =>
          simp only []
          have hi : Nat.blt i h.length = true := by
            obtain ⟨hi, _⟩ := List.getElem?_eq_some_iff.mp he
            exact Nat.ble_eq_true_of_le hi
          cases (a.1 == 0) with
          | false => rfl
          | true => simp only [apq_eq, hi, cond_true, Bool.true_and]
  · rename_i hx
    split
    · exact absurd rfl (hx _ _ _ _)
    · rfl
abbrev aFn : Type := (Nat → Option (List aI)) → (Nat → List aV → List aE → Option aR) → Nat → Option FieldType → Nat → Nat → Nat → Int64 → Nat → List (Nat × aV) → List aV → List aE → aO
noncomputable def aexB (ins : Instr) : Option aFn := match ins with
  | .iconst n => some (fun cs call nL ret a b c k pc L st h => ago (pc + 1) L (.inl (aK (Int32.ofInt n).toInt) :: st) h)
  | .bipush n => some (fun cs call nL ret a b c k pc L st h => ago (pc + 2) L (.inl (aK (Int8.ofInt n).toInt32.toInt) :: st) h)
  | .sipush n => some (fun cs call nL ret a b c k pc L st h => ago (pc + 3) L (.inl (aK (Int16.ofInt n).toInt32.toInt) :: st) h)
  | .lconst _ => some (fun cs call nL ret a b c k pc L st h => ago (pc + 1) L (.inr none :: st) h)
  | .ldc _ => some (fun cs call nL ret a b c k pc L st h => bif a == 0 then ago (pc + 2) L (.inl (aK k.toInt32.toInt) :: st) h else ago (pc + 2) L (aref (jK0 + b) :: st) h)
  | .ldc_w _ => some (fun cs call nL ret a b c k pc L st h => ago (pc + 3) L (.inl (aK k.toInt32.toInt) :: st) h)
  | .ldc2_w _ => some (fun cs call nL ret a b c k pc L st h => ago (pc + 3) L (.inr none :: st) h)
  | .iload_n i => some (fun cs call nL ret a b c k pc L st h => aloadI L i (pc + 1) st h)
  | .iload i => some (fun cs call nL ret a b c k pc L st h => aloadI L i (pc + 2) st h)
  | .lload_n i => some (fun cs call nL ret a b c k pc L st h => aloadL L i (pc + 1) st h)
  | .lload i => some (fun cs call nL ret a b c k pc L st h => aloadL L i (pc + 2) st h)
  | .aload_n i => some (fun cs call nL ret a b c k pc L st h => aloadA L i (pc + 1) st h)
  | .aload i => some (fun cs call nL ret a b c k pc L st h => aloadA L i (pc + 2) st h)
  | .istore_n i => some (fun cs call nL ret a b c k pc L st h => astoreI nL L i (pc + 1) st h)
  | .istore i => some (fun cs call nL ret a b c k pc L st h => astoreI nL L i (pc + 2) st h)
  | .astore_n i => some (fun cs call nL ret a b c k pc L st h => astoreA nL L i (pc + 1) st h)
  | .astore i => some (fun cs call nL ret a b c k pc L st h => astoreA nL L i (pc + 2) st h)
  | .lstore_n i => some (fun cs call nL ret a b c k pc L st h => astoreL nL L i (pc + 1) st h)
  | .lstore i => some (fun cs call nL ret a b c k pc L st h => astoreL nL L i (pc + 2) st h)
  | .iinc i n => some (fun cs call nL ret a b c k pc L st h => match agv L i with
      | some (.inl x) => bif Nat.blt i nL then ago (pc + 3) (aput L i (.inl (aadd x (aK (Int32.ofInt n).toInt)))) st h else none
      | _ => none)
  | .iadd => some (fun cs call nL ret a b c k pc L st h => abin aadd (pc + 1) L st h)
  | .isub => some (fun cs call nL ret a b c k pc L st h => abin asub (pc + 1) L st h)
  | .imul => some (fun cs call nL ret a b c k pc L st h => abin amul (pc + 1) L st h)
  | .iand => some (fun cs call nL ret a b c k pc L st h => abin (aop (fun x y => x &&& y)) (pc + 1) L st h)
  | .ior => some (fun cs call nL ret a b c k pc L st h => abin (aop (fun x y => x ||| y)) (pc + 1) L st h)
  | .ixor => some (fun cs call nL ret a b c k pc L st h => abin (aop (fun x y => x ^^^ y)) (pc + 1) L st h)
  | .ishl => some (fun cs call nL ret a b c k pc L st h => abin (aop (fun x y => x <<< (y &&& 31))) (pc + 1) L st h)
  | .ishr => some (fun cs call nL ret a b c k pc L st h => abin (aop (fun x y => x >>> (y &&& 31))) (pc + 1) L st h)
  | .iushr => some (fun cs call nL ret a b c k pc L st h => abin (aop (fun x y => (x.toUInt32 >>> (y.toUInt32 &&& Int32.toUInt32 31)).toInt32)) (pc + 1) L st h)
  | .iaload => some (fun cs call nL ret a b c k pc L st h => aialdS cs (pc + 1) L st h)
  | .iastore => some (fun cs call nL ret a b c k pc L st h => aiastS (pc + 1) L st h)
  | .aaload => some (fun cs call nL ret a b c k pc L st h => aaald (pc + 1) L st h)
  | .aastore => some (fun cs call nL ret a b c k pc L st h => aaast (pc + 1) L st h)
  | .arraylength => some (fun cs call nL ret a b c k pc L st h => aalen cs (pc + 1) L st h)
  | .ineg => some (fun cs call nL ret a b c k pc L st h => aun aneg (pc + 1) L st h)
  | .i2b => some (fun cs call nL ret a b c k pc L st h => aun (aop1 (fun x => x.toInt8.toInt32)) (pc + 1) L st h)
  | .i2s => some (fun cs call nL ret a b c k pc L st h => aun (aop1 (fun x => x.toInt16.toInt32)) (pc + 1) L st h)
  | .i2c => some (fun cs call nL ret a b c k pc L st h => aun (aop1 (fun x => (x.toUInt32 % 65536).toInt32)) (pc + 1) L st h)
  | .ladd => some (fun cs call nL ret a b c k pc L st h => abinL (pc + 1) L st h)
  | .lmul => some (fun cs call nL ret a b c k pc L st h => abinL (pc + 1) L st h)
  | .land => some (fun cs call nL ret a b c k pc L st h => abinL (pc + 1) L st h)
  | .lor => some (fun cs call nL ret a b c k pc L st h => abinL (pc + 1) L st h)
  | .lshl => some (fun cs call nL ret a b c k pc L st h => ashL (pc + 1) L st h)
  | .lshr => some (fun cs call nL ret a b c k pc L st h => ashL (pc + 1) L st h)
  | .lushr => some (fun cs call nL ret a b c k pc L st h => ashL (pc + 1) L st h)
  | .i2l => some (fun cs call nL ret a b c k pc L st h => match st with
      | .inl _ :: r => ago (pc + 1) L (.inr none :: r) h
      | _ => none)
  | .l2i => some (fun cs call nL ret a b c k pc L st h => match st with
      | .inr none :: r => ago (pc + 1) L (.inl aT :: r) h
      | _ => none)
  | .idiv => some (fun cs call nL ret a b c k pc L st h => match st with
      | .inl y :: .inl x :: r => bif decide (0 < y.1) || decide (y.2 < 0) then ago (pc + 1) L (.inl (aop (fun x y => x / y) x y) :: r) h else none
      | _ => none)
  | .irem => some (fun cs call nL ret a b c k pc L st h => match st with
      | .inl y :: .inl x :: r => bif decide (0 < y.1) || decide (y.2 < 0) then ago (pc + 1) L (.inl (aop (fun x y => x - x / y * y) x y) :: r) h else none
      | _ => none)
  | .dup => some (fun cs call nL ret a b c k pc L st h => match st with
      | .inl x :: r => ago (pc + 1) L (.inl x :: .inl x :: r) h
      | .inr (some (.ref x)) :: r => ago (pc + 1) L (aref x :: aref x :: r) h
      | _ => none)
  | .pop => some (fun cs call nL ret a b c k pc L st h => match st with
      | .inl _ :: r => ago (pc + 1) L r h
      | .inr (some (.ref _)) :: r => ago (pc + 1) L r h
      | _ => none)
  | .dup2 => some (fun cs call nL ret a b c k pc L st h => match st with
      | .inl y :: .inr (some (.ref x)) :: r => ago (pc + 1) L (.inl y :: aref x :: .inl y :: aref x :: r) h
      | .inl y :: .inl x :: r => ago (pc + 1) L (.inl y :: .inl x :: .inl y :: .inl x :: r) h
      | _ => none)
  | .goto _ => some (fun cs call nL ret a b c k pc L st h => ago a L st h)
  | .ifCond q _ => some (fun cs call nL ret a b c k pc L st h => aif q a (pc + 3) L st h)
  | .if_icmp q _ => some (fun cs call nL ret a b c k pc L st h => aicmp q a (pc + 3) L st h)
  | .tableswitch d lo hi offs => some (fun cs call nL ret a b c k pc L st h => atsw d lo hi offs.toList pc L st h)
  | .lookupswitch d ps => some (fun cs call nL ret a b c k pc L st h => alsw d ps.toList pc L st h)
  | .getfield _ => some (fun cs call nL ret a b c k pc L st h => agetf a b (pc + 3) L st h)
  | .putfield _ => some (fun cs call nL ret a b c k pc L st h => aputf a b c (pc + 3) L st h)
  | .getstatic _ => some (fun cs call nL ret a b c k pc L st h => ago (pc + 3) L (aref (jK0 + a) :: st) h)
  | .new _ => some (fun cs call nL ret a b c k pc L st h => anew a (pc + 3) (jdf a) L st h)
  | .newarray _ => some (fun cs call nL ret a b c k pc L st h => anewa (pc + 2) L st h)
  | .anewarray _ => some (fun cs call nL ret a b c k pc L st h => anewq a (pc + 3) L st h)
  | .multianewarray _ _ => some (fun cs call nL ret a b c k pc L st h => anewg 1 (pc + 4) L st h)
  | .invokevirtual _ => some (fun cs call nL ret a b c k pc L st h => ainvV call a b c (pc + 3) L st h)
  | .invokespecial _ => some (fun cs call nL ret a b c k pc L st h => bif c == 1 then (match st with
      | .inr (some (.ref _)) :: r => bif Nat.ble (r.map acat).sum 8 then ago (pc + 3) L r h else none
      | _ => none) else ainvI call a b (pc + 3) L st h)
  | .invokestatic _ => some (fun cs call nL ret a b c k pc L st h => bif c == 1 then acopyS (pc + 3) L st h else ainv call a b (pc + 3) L st h)
  | .ireturn => some (fun cs call nL ret a b c k pc L st h => aret ret st h)
  | .areturn => some (fun cs call nL ret a b c k pc L st h => aretA ret st h)
  | .return_ => some (fun cs call nL ret a b c k pc L st h => aretV ret st h)
  | .lreturn => some (fun cs call nL ret a b c k pc L st h => aretL ret st h)
  | _ => none
def aapp (f : Option aFn) (cs : Nat → Option (List aI)) (call : Nat → List aV → List aE → Option aR) (nL : Nat) (ret : Option FieldType) (a b c : Nat) (k : Int64) (pc : Nat) (L : List (Nat × aV)) (st : List aV) (h : List aE) : aO := match f with
  | some f => f cs call nL ret a b c k pc L st h
  | none => none
theorem aexB_eq (cs : Nat → Option (List aI)) (call : Nat → List aV → List aE → Option aR) (nL : Nat) (ret : Option FieldType) (ins : Instr) (l a b c : Nat) (k : Int64) (pc : Nat) (L : List (Nat × aV)) (st : List aV) (h : List aE) : aapp (aexB ins) cs call nL ret a b c k pc L st h = aexec cs call nL ret (ins, l, a, b, c, k) pc L st h := by
  cases ins with
  | invokestatic i =>
    show (bif c == 1 then acopyS (pc + 3) L st h else ainv call a b (pc + 3) L st h) = (bif c == 1 then acopy (pc + 3) L st h else ainv call a b (pc + 3) L st h)
    rw [acopyS_eq]
  | iaload => exact aialdS_eq cs (pc + 1) L st h
  | iastore => exact aiastS_eq (pc + 1) L st h
  | _ => rfl
section S
variable {β : Type}
def snat (n : Nat) (k : Nat → β) : β := match n with
  | 0 => k 0
  | m + 1 => k (m + 1)
theorem snat_eq (n : Nat) (k : Nat → β) : snat n k = k n := by cases n <;> rfl
def sint (z : Int) (k : Int → β) : β := match z with
  | .ofNat n => snat n (fun n => k (.ofNat n))
  | .negSucc n => snat n (fun n => k (.negSucc n))
theorem sint_eq (z : Int) (k : Int → β) : sint z k = k z := by
  cases z with
  | ofNat n => exact snat_eq n (fun n => k (.ofNat n))
  | negSucc n => exact snat_eq n (fun n => k (.negSucc n))
def saI (X : aI) (k : aI → β) : β := match X with
  | (a, b) => sint a (fun a => sint b (fun b => k (a, b)))
theorem saI_eq (X : aI) (k : aI → β) : saI X k = k X := by
  obtain ⟨a, b⟩ := X
  unfold saI
  simp only [sint_eq]
def saV (v : aV) (k : aV → β) : β := match v with
  | .inl X => saI X (fun X => k (.inl X))
  | .inr none => k (.inr none)
  | .inr (some (.ref i)) => snat i (fun i => k (.inr (some (.ref i))))
  | .inr (some w) => k (.inr (some w))
theorem saV_eq (v : aV) (k : aV → β) : saV v k = k v := by
  unfold saV
  split
  · rw [saI_eq]
  · rfl
  · rw [snat_eq]
  · rfl
def ssp {α : Type} : List α → (List α → β) → β
  | [], k => k []
  | x :: r, k => ssp r (fun r => k (x :: r))
theorem ssp_eq {α : Type} : ∀ (l : List α) (k : List α → β), ssp l k = k l
  | [], k => rfl
  | x :: r, k => ssp_eq r _
def sspn {α : Type} : Nat → List α → (List α → β) → β
  | _, [], k => k []
  | 0, x :: r, k => k (x :: r)
  | n + 1, x :: r, k => sspn n r (fun r => k (x :: r))
theorem sspn_eq {α : Type} : ∀ (n : Nat) (l : List α) (k : List α → β), sspn n l k = k l
  | 0, [], _ => rfl
  | n + 1, [], _ => rfl
  | 0, x :: r, _ => rfl
  | n + 1, x :: r, k => sspn_eq n r _
def sst (l : List aV) (k : List aV → β) : β := match l with
  | [] => k []
  | v :: r => saV v (fun v => ssp r (fun r => k (v :: r)))
theorem sst_eq (l : List aV) (k : List aV → β) : sst l k = k l := by
  cases l with
  | nil => rfl
  | cons v r =>
    unfold sst
    simp only [saV_eq, ssp_eq]
def sLo (l : List (Nat × aV)) (k : List (Nat × aV) → β) : β := match l with
  | [] => k []
  | (i, v) :: r => saV v (fun v => ssp r (fun r => k ((i, v) :: r)))
theorem sLo_eq (l : List (Nat × aV)) (k : List (Nat × aV) → β) : sLo l k = k l := by
  cases l with
  | nil => rfl
  | cons q r =>
    obtain ⟨i, v⟩ := q
    unfold sLo
    simp only [saV_eq, ssp_eq]
def sargs : List (Nat × aV) → (List (Nat × aV) → β) → β
  | [], k => k []
  | (i, v) :: r, k => snat i (fun i => saV v (fun v => sargs r (fun r => k ((i, v) :: r))))
theorem sargs_eq : ∀ (l : List (Nat × aV)) (k : List (Nat × aV) → β), sargs l k = k l
  | [], _ => rfl
  | (i, v) :: r, k => by
    unfold sargs
    rw [snat_eq, saV_eq]
    exact sargs_eq r _
/-- a cell's spine, up to n of an int array -/
def sce (n : Nat) (e : aE) (k : aE → β) : β := match e with
  | .inl (c, l) => ssp l (fun l => k (.inl (c, l)))
  | .inr (.inl (c, l)) => sspn n l (fun l => k (.inr (.inl (c, l))))
  | .inr (.inr (c, l)) => ssp l (fun l => k (.inr (.inr (c, l))))
theorem sce_eq (n : Nat) (e : aE) (k : aE → β) : sce n e k = k e := by
  unfold sce
  split
  · rw [ssp_eq]
  · rw [sspn_eq]
  · rw [ssp_eq]
def sat (n : Nat) : Nat → List aE → (List aE → β) → β
  | _, [], k => k []
  | 0, e :: r, k => sce n e (fun e => k (e :: r))
  | i + 1, e :: r, k => sat n i r (fun r => k (e :: r))
theorem sat_eq (n : Nat) : ∀ (i : Nat) (l : List aE) (k : List aE → β), sat n i l k = k l
  | 0, [], _ => rfl
  | i + 1, [], _ => rfl
  | 0, e :: r, k => by
    unfold sat
    rw [sce_eq]
  | i + 1, e :: r, k => sat_eq n i r _
end S
/-- which cell an instruction wrote: 1 the second of the stack, 2 the third (at the place of the second), 4 the third if it copied, 3 a new one -/
def aexW (ins : Instr) : Nat := match ins with
  | .putfield _ => 1
  | .aastore => 2
  | .invokestatic _ => 4
  | .new _ => 3
  | .newarray _ => 3
  | .anewarray _ => 3
  | .multianewarray _ _ => 3
  | _ => 0
def arf (v : Option aV) : Nat := match v with
  | some (.inr (some (.ref i))) => i
  | _ => 0
def apl (v : Option aV) : Nat := match v with
  | some (.inl X) => X.1.toNat
  | _ => 0
def sH {β : Type} (w c : Nat) (st : List aV) (h : List aE) (k : List aE → β) : β := match w with
  | 0 => k h
  | 1 => sat 0 (arf st[1]?) h k
  | 2 => sat (apl st[1]?) (arf st[2]?) h k
  | 3 => sat 2000 h.length h k
  | _ => bif c == 1 then sat 2000 (arf st[2]?) h k else k h
theorem sH_eq {β : Type} (w c : Nat) (st : List aV) (h : List aE) (k : List aE → β) : sH w c st h k = k h := by
  unfold sH
  split
  · rfl
  · rw [sat_eq]
  · rw [sat_eq]
  · rw [sat_eq]
  · cases (c == 1) with
    | true => simp only [cond_true, sat_eq]
    | false => rfl
noncomputable def arunS (cs : Nat → Option (List aI)) (call : Nat → List aV → List aE → Option aR) (nL : Nat) (ret : Option FieldType) (tab : Nat → Option jI) : Nat → Nat → List (Nat × aV) → List aV → List aE → Option aR
  | 0, _, _, _, _ => none
  | f + 1, pc, L, st, h => match tab pc with
    | none => none
    | some (ins, _, a, b, c, k) => match aapp (aexB ins) cs call nL ret a b c k pc L st h with
      | none => none
      | some (.inl (pc', L', st', h')) => snat pc' (fun pc' => sLo L' (fun L' => sst st' (fun st' => sH (aexW ins) c st h' (fun h' => arunS cs call nL ret tab f pc' L' st' h'))))
      | some (.inr r) => some r
theorem arunS_eq (cs : Nat → Option (List aI)) {c1 c2 : Nat → List aV → List aE → Option aR} (hc : c1 = c2) (nL : Nat) (ret : Option FieldType) (tab : Nat → Option jI) : ∀ (f pc : Nat) (L : List (Nat × aV)) (st : List aV) (h : List aE), arunS cs c1 nL ret tab f pc L st h = arun cs c2 nL ret tab f (pc, L, st, h)
  | 0, _, _, _, _ => rfl
  | f + 1, pc, L, st, h => by
    subst hc
    unfold arunS arun
    simp only []
    cases tab pc with
    | none => rfl
    | some x =>
      obtain ⟨ins, l, a, b, c, k⟩ := x
      simp only []
      rw [aexB_eq cs c1 nL ret ins l a b c k pc L st h]
      cases aexec cs c1 nL ret (ins, l, a, b, c, k) pc L st h with
      | none => rfl
      | some o =>
        cases o with
        | inr r => rfl
        | inl c' =>
          obtain ⟨pc', L', st', h'⟩ := c'
          simp only [snat_eq, sLo_eq, sst_eq, sH_eq]
          exact arunS_eq cs rfl nL ret tab f pc' L' st' h'
noncomputable def acallS (mt : Nat → Option jM) (cs : Nat → Option (List aI)) (F : Nat) : Nat → Nat → List aV → List aE → Option aR
  | 0, _, _, _ => none
  | d + 1, a, vs, h => match mt a with
    | none => none
    | some (tab, _, _, nL, ret, n, _) => bif vs.length == n && Nat.ble (asl vs) nL then sargs (aargs 0 vs) (fun L => arunS cs (acallS mt cs F d) nL ret tab F 0 L [] h) else none
theorem acallS_eq (mt : Nat → Option jM) (cs : Nat → Option (List aI)) (F : Nat) : ∀ d : Nat, acallS mt cs F d = acall mt cs F d
  | 0 => rfl
  | d + 1 => by
    funext a vs h
    unfold acallS acall
    cases mt a with
    | none => rfl
    | some q =>
      obtain ⟨tab, y, cc, nL, ret, n, C⟩ := q
      simp only [sargs_eq]
      rw [arunS_eq cs (acallS_eq mt cs F d)]
noncomputable def arunatS (z : aI) (X : List aI) : Option aR := arunS (axs X) (acallS jmt (axs X) jF0 40) 4 (some .boolean) jt_L_law 999979 33 jL3 [.inl z] jH0
noncomputable def atryS (z : aI) (pre : List aI) : Bool := aok 155 (arunatS z (atop pre))
theorem atryS_eq (z : aI) : atryS z = atry z := by
  funext pre
  unfold atryS atry arunatS arunat
  rw [arunS_eq _ (acallS_eq jmt _ jF0 40)]
