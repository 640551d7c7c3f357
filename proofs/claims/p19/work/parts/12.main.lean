/-! the step, the run, the call *-/
def jlen : Instr → Nat
  | .bipush _ | .ldc _ | .iload _ | .lload _ | .aload _ | .istore _ | .lstore _ | .astore _ | .newarray _ => 2
  | .sipush _ | .ldc_w _ | .ldc2_w _ | .iinc .. | .goto _ | .ifCond .. | .if_icmp .. | .getfield _ | .putfield _ | .getstatic _ | .new _ | .anewarray _ | .invokevirtual _ | .invokespecial _ | .invokestatic _ => 3
  | .multianewarray .. => 4
  | _ => 1
def jl (i : Instr) (len : Nat) : Bool := match i with
  | .tableswitch .. => true
  | .lookupswitch .. => true
  | i => len == jlen i
/-- what an instruction needs of the tables -/
def jext (G : List Cond) (own : String) (ini : Prop) (mt : Nat → Option jM) (pc : Nat) (x : jI) : Prop := match x with
  | (ins, _, a, b, c, k) => match ins with
    | .ldc i => (a = 0 ∧ Cond.constant own i k.toInt32 ∈ G) ∨ (a = 1 ∧ ∃ (z : Nat) (q : String × Nat × String), b = 10 + z ∧ jstr[z]? = some q ∧ q.1 = own ∧ q.2.1 = i)
    | .ldc_w i => Cond.constant own i k.toInt32 ∈ G
    | .ldc2_w i => Cond.constantLong own i k ∈ G
    | .goto off => (pc : Int) + off = (a : Int)
    | .ifCond _ off => (pc : Int) + off = (a : Int)
    | .if_icmp _ off => (pc : Int) + off = (a : Int)
    | .getfield i => (c = 0 ∧ jfld G own i a b) ∨ (c = 9 ∧ ((b = 0 ∧ Cond.fieldLink own i "java/lang/String" "value" "[B" ∈ G) ∨ (b = 1 ∧ Cond.fieldLink own i "java/lang/String" "coder" "B" ∈ G)))
    | .putfield i => jfput G own ini i a b c
    | .getstatic i => (b = 9 ∧ Cond.fieldLink own i "java/lang/String" "COMPACT_STRINGS" "Z" ∈ G) ∨ b = 0 ∧ ∃ q : String × String × List Int32, jst[a]? = some q ∧ Cond.fieldLink own i q.1 q.2.1 "[I" ∈ G
    | .new i => jfnew G own i a
    | .newarray t => t = .int ∧ Cond.arrayClass .int ∈ G
    | .anewarray i => (a = 2 ∨ a = 3) ∧ Cond.classLink own i (jover a) ∈ G
    | .multianewarray i n => n = 2 ∧ Cond.classLink own i "[[I" ∈ G ∧ Cond.arrayClass .int ∈ G
    | .invokevirtual i => (k = 0 ∧ jcalV G own mt i a b c) ∨ (k = 9 ∧ jcalK G own mt i a b)
    | .invokespecial i => (c = 1 ∧ Cond.methodLink own i objectInit ∈ G ∧ Cond.instanceMethod objectInit ∈ G ∧ Cond.code objectInit ⟨#[0xb1]⟩ 1 none ∈ G) ∨ (c = 0 ∧ jcalI G own mt i a b)
    | .invokestatic i => (c = 1 ∧ Cond.methodLink own i arraycopyName ∈ G ∧ Cond.native arraycopyName ∈ G ∧ Cond.static arraycopyName ∈ G ∧ Cond.initialized "java/lang/System" ∈ G) ∨ (c = 0 ∧ jcalS G own mt i a b)
    | _ => True
def jok (G : List Cond) (own : String) (ini : Prop) (mt : Nat → Option jM) (cc : ByteArray) (pc : Nat) (x : jI) : Prop := decode cc pc = .ok (x.1, x.2.1) ∧ jl x.1 x.2.1 = true ∧ jext G own ini mt pc x
/-- a return of v -/
def jrat (cc : ByteArray) (ret : Option FieldType) (pc : Nat) (st : List Value) (v : Option Value) : Prop :=
  (∃ x : Int32, decode cc pc = .ok (.ireturn, 1) ∧ st = [.int x] ∧ v = some (.int x) ∧ (ret = some .int ∨ (ret = some .boolean ∧ (x = 0 ∨ x = 1)) ∨ (ret = some .byte ∧ x = 0) ∨ (ret = some .char ∧ jchar x = true))) ∨
  (∃ (x : Nat) (n : String), decode cc pc = .ok (.areturn, 1) ∧ st = [.ref x] ∧ v = some (.ref x) ∧ ret = some (.object n)) ∨ (decode cc pc = .ok (.return_, 1) ∧ st = [] ∧ v = none ∧ ret = none) ∨ (∃ x : Int64, decode cc pc = .ok (.lreturn, 1) ∧ st = [.long x] ∧ v = some (.long x) ∧ ret = some .long)
theorem jr_exec {G : List Cond} {own : String} {ini : Prop} {mt : Nat → Option jM} {cc : ByteArray} {cs : Nat → Option (List Int32)} {call : Nat → List Value → List jE → Option jR} {nL : Nat} {ret : Option FieldType} {x : jI} {pc : Nat} {L : List (Nat × Value)} {st : List Value} {h : List jE} {r : jR} (hok : jok G own ini mt cc pc x) (he : jexec cs call nL ret x pc L st h = some (.inr r)) : jrat cc ret pc st r.1 ∧ r.2 = h := by
  obtain ⟨ins, len, a, b, c, k⟩ := x
  obtain ⟨hd, hl, -⟩ := hok
  have hd : decode cc pc = .ok (ins, len) := hd
  have hl : jl ins len = true := hl
  unfold jexec at he
  simp only [jgo, jloadI, jloadL, jloadA, jstoreI, jstoreA, jstoreL, jop1, jop2, jop2L, jshL, jiald, jaald, jalen, jgetf, jgetk, jbald, jinvK, jtsw, jlsw, jif, jicmp, jiast, jaast, jputf, jnew, jnewa, jnewq, jnewg, jcopy, jinv, jinvV, jinvI, Bool.cond_eq_ite] at he
  split at he
  case h_70 =>
    cases eq_of_beq hl
    unfold jret at he
    split at he
    · split at he
      · cases he
        exact ⟨Or.inl ⟨_, hd, rfl, rfl, Or.inl rfl⟩, rfl⟩
      · split at he
        · rename_i hv
          cases he
          exact ⟨Or.inl ⟨_, hd, rfl, rfl, Or.inr (Or.inl ⟨rfl, hv⟩)⟩, rfl⟩
        · cases he
      · split at he
        · rename_i hv
          cases he
          exact ⟨Or.inl ⟨_, hd, rfl, rfl, Or.inr (Or.inr (Or.inl ⟨rfl, hv⟩))⟩, rfl⟩
        · cases he
      · split at he
        · rename_i hv
          cases he
          exact ⟨Or.inl ⟨_, hd, rfl, rfl, Or.inr (Or.inr (Or.inr ⟨rfl, hv⟩))⟩, rfl⟩
        · cases he
      · cases he
    · cases he
  case h_71 =>
    cases eq_of_beq hl
    unfold jretA at he
    split at he
    · split at he
      · cases he
        exact ⟨Or.inr (Or.inl ⟨_, _, hd, rfl, rfl, rfl⟩), rfl⟩
      · cases he
    · cases he
  case h_72 =>
    cases eq_of_beq hl
    unfold jretV at he
    split at he
    · split at he
      · cases he
        exact ⟨Or.inr (Or.inr (Or.inl ⟨hd, rfl, rfl, rfl⟩)), rfl⟩
      · cases he
    · cases he
  case h_73 =>
    cases eq_of_beq hl
    unfold jretL at he
    split at he
    · split at he
      · cases he
        exact ⟨Or.inr (Or.inr (Or.inr ⟨_, hd, rfl, rfl, rfl⟩)), rfl⟩
      · cases he
    · cases he
  all_goals first | (cases he; done) | skip
  all_goals (repeat' split at he)
  all_goals (cases he; done)
