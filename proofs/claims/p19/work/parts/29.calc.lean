/-! THE CALCULUS: runs without counts of steps, over a memory of ints -/
abbrev Mem : Type := Nat → Nat → Int32
noncomputable def mput (m : Mem) (c j : Nat) (x : Int32) : Mem := fun c' j' => bif Nat.beq c' c && Nat.beq j' j then x else m c' j'
noncomputable def mcpy (m : Mem) (q e sp dp n : Nat) : Mem := fun c j => bif Nat.beq c e && (Nat.ble dp j && Nat.blt j (dp + n)) then m q (sp + (j - dp)) else m c j
/-- an object: its class, its fields (0 an int, 1 a String constant by its number, q + 2 the cell q); an int array's length; an array of references -/
abbrev Shp : Type := (Nat × List Nat) ⊕ (Nat ⊕ (Nat × List Nat))
noncomputable def fv (m : Mem) (c k : Nat) : Nat → Value
  | 0 => .int (m c k)
  | 1 => .ref (jK0 + (m c k).toNatClampNeg)
  | q + 2 => .ref q
noncomputable def fvl (m : Mem) (c : Nat) : Nat → List Nat → List Value
  | _, [] => []
  | k, f :: r => fv m c k f :: fvl m c (k + 1) r
noncomputable def cel (m : Mem) (c : Nat) : Shp → jE
  | .inl o => .inl (o.1, fvl m c 0 o.2)
  | .inr (.inl n) => .inr (.inl (0, (List.range n).map (m c)))
  | .inr (.inr a) => .inr (.inr (a.1, a.2.map some))
noncomputable def Ctx (sh : Nat → Option Shp) (K : Mem → List jE) : Prop := ∀ c s, sh c = some s → c < jK0 ∧ (∀ m, (K m)[c]? = some (cel m c s)) ∧ ∀ m m' : Mem, (∀ c', c' ≠ c → m' c' = m c') → K m' = (K m).set c (cel m' c s)
theorem mput_at (m : Mem) (c j : Nat) (x : Int32) : mput m c j x c j = x := by
  unfold mput
  rw [show Nat.beq c c = true from Nat.beq_refl c, show Nat.beq j j = true from Nat.beq_refl j]
  rfl
theorem beq_ne {a b : Nat} (h : a ≠ b) : Nat.beq a b = false := by
  cases hb : Nat.beq a b with
  | false => rfl
  | true => exact absurd (Nat.eq_of_beq_eq_true hb) h
theorem mput_c (m : Mem) {c c' : Nat} (j : Nat) (x : Int32) (h : c' ≠ c) : mput m c j x c' = m c' := by
  funext j'
  unfold mput
  rw [beq_ne h]
  rfl
theorem mput_j (m : Mem) (c c' : Nat) {j j' : Nat} (x : Int32) (h : j' ≠ j) : mput m c j x c' j' = m c' j' := by
  unfold mput
  rw [beq_ne h, Bool.and_false]
  rfl
theorem mcpy_c (m : Mem) {q e c : Nat} (sp dp n : Nat) (h : c ≠ e) : mcpy m q e sp dp n c = m c := by
  funext j'
  unfold mcpy
  rw [beq_ne h]
  rfl
theorem fvl_get (m : Mem) (c : Nat) : ∀ (l : List Nat) (k i : Nat), (fvl m c k l)[i]? = (l[i]?).map (fv m c (k + i))
  | [], _, _ => rfl
  | f :: r, k, 0 => rfl
  | f :: r, k, i + 1 => by
    show (fvl m c (k + 1) r)[i]? = _
    rw [fvl_get m c r (k + 1) i, Nat.add_right_comm, Nat.add_assoc]
    rfl
theorem fvl_len (m : Mem) (c : Nat) : ∀ (l : List Nat) (k : Nat), (fvl m c k l).length = l.length
  | [], _ => rfl
  | f :: r, k => congrArg (· + 1) (fvl_len m c r (k + 1))
noncomputable def CallD (cs : Nat → Option (List Int32)) (d a : Nat) (vs : List Value) (h : List jE) (r : jR) : Prop := ∃ F0, ∀ F, F0 ≤ F → jcall jmt cs F d a vs h = some r
noncomputable def RunD (cs : Nat → Option (List Int32)) (d nL : Nat) (ret : Option FieldType) (tab : Nat → Option jI) (c : jC) (r : jR) : Prop := ∃ F0, ∀ F f, F0 ≤ F → F0 ≤ f → jrun cs (jcall jmt cs F d) nL ret tab f c = some r
theorem CallD_of {cs : Nat → Option (List Int32)} {d a : Nat} {q : jM} {vs : List Value} {h : List jE} {r : jR} (hq : jmt a = some q) (ha : (a == 264) = false) (hl : vs.length = q.2.2.2.2.2.1 ∧ (lg_sl vs).length ≤ q.2.2.2.1) (k : RunD cs d q.2.2.2.1 q.2.2.2.2.1 q.1 (0, lv_args 0 vs, [], h) r) : CallD cs (d + 1) a vs h r := by
  obtain ⟨F0, k⟩ := k
  refine ⟨F0, fun F hF => ?_⟩
  unfold jcall
  rw [hq]
  simp only []
  rw [if_pos hl, ha]
  exact k F F hF hF
theorem jrun_ext {cs : Nat → Option (List Int32)} {j1 j2 : Nat → List Value → List jE → Option jR} {nL : Nat} {ret : Option FieldType} {tab : Nat → Option jI} (hj : ∀ a vs h r, j1 a vs h = some r → j2 a vs h = some r) (hx : ∀ x pc L st h o, jexec cs j1 nL ret x pc L st h = some o → jexec cs j2 nL ret x pc L st h = some o) : ∀ (f : Nat) (c : jC) (r : jR), jrun cs j1 nL ret tab f c = some r → jrun cs j2 nL ret tab f c = some r
  | 0, _, _, h => by cases h
  | f + 1, c, r, h => by
    have h : (match jstep cs j1 nL ret tab c with
      | none => none
      | some (.inl c') => jrun cs j1 nL ret tab f c'
      | some (.inr r) => some r) = some r := h
    show (match jstep cs j2 nL ret tab c with
      | none => none
      | some (.inl c') => jrun cs j2 nL ret tab f c'
      | some (.inr r) => some r) = some r
    unfold jstep at h ⊢
    cases ht : tab c.1 with
    | none => rw [ht] at h; cases h
    | some x =>
      rw [ht] at h
      simp only [] at h ⊢
      cases he : jexec cs j1 nL ret x c.1 c.2.1 c.2.2.1 c.2.2.2 with
      | none => rw [he] at h; cases h
      | some o =>
        rw [he] at h
        rw [hx _ _ _ _ _ _ he]
        cases o with
        | inl c' => exact jrun_ext hj hx f c' r h
        | inr r' => exact h
theorem jinv_ext {j1 j2 : Nat → List Value → List jE → Option jR} (hj : ∀ a vs h r, j1 a vs h = some r → j2 a vs h = some r) {a n t : Nat} {L : List (Nat × Value)} {st : List Value} {h : List jE} {o : jC ⊕ jR} (e : jinv j1 a n t L st h = some o) : jinv j2 a n t L st h = some o := by
  unfold jinv at e ⊢
  split at e
  · rename_i hc
    rw [if_pos hc]
    cases hr : j1 a (st.take n).reverse h with
    | none => rw [hr] at e; cases e
    | some r => rw [hr] at e; rw [hj _ _ _ _ hr]; exact e
  · cases e
theorem jinvI_ext {j1 j2 : Nat → List Value → List jE → Option jR} (hj : ∀ a vs h r, j1 a vs h = some r → j2 a vs h = some r) {a n t : Nat} {L : List (Nat × Value)} {st : List Value} {h : List jE} {o : jC ⊕ jR} (e : jinvI j1 a n t L st h = some o) : jinvI j2 a n t L st h = some o := by
  unfold jinvI at e ⊢
  split at e
  · exact jinv_ext hj e
  · cases e
theorem jinvV_ext {j1 j2 : Nat → List Value → List jE → Option jR} (hj : ∀ a vs h r, j1 a vs h = some r → j2 a vs h = some r) {a n ci t : Nat} {L : List (Nat × Value)} {st : List Value} {h : List jE} {o : jC ⊕ jR} (e : jinvV j1 a n ci t L st h = some o) : jinvV j2 a n ci t L st h = some o := by
  unfold jinvV at e ⊢
  split at e
  · split at e
    · rename_i i _ _ _ ob _
      cases hb : (ob.1 == ci) with
      | true => rw [hb] at e; exact jinv_ext hj e
      | false => rw [hb] at e; cases e
    · cases e
  · cases e
theorem jinvK_ext {j1 j2 : Nat → List Value → List jE → Option jR} (hj : ∀ a vs h r, j1 a vs h = some r → j2 a vs h = some r) {a n t : Nat} {L : List (Nat × Value)} {st : List Value} {h : List jE} {o : jC ⊕ jR} (e : jinvK j1 a n t L st h = some o) : jinvK j2 a n t L st h = some o := by
  unfold jinvK at e ⊢
  split at e
  · rename_i i _ _
    cases hb : jstq i with
    | true => rw [hb] at e; exact jinv_ext hj e
    | false => rw [hb] at e; cases e
  · cases e
noncomputable def jspec1 (t : Nat) (L : List (Nat × Value)) (st : List Value) (h : List jE) : jO := match st with
  | .ref _ :: r => if (r.map fun v => v.category).sum ≤ 8 then jgo t L r h else none
  | _ => none
theorem jexec_ext {cs : Nat → Option (List Int32)} {j1 j2 : Nat → List Value → List jE → Option jR} {nL : Nat} {ret : Option FieldType} (hj : ∀ a vs h r, j1 a vs h = some r → j2 a vs h = some r) (x : jI) (pc : Nat) (L : List (Nat × Value)) (st : List Value) (h : List jE) (o : jC ⊕ jR) (e : jexec cs j1 nL ret x pc L st h = some o) : jexec cs j2 nL ret x pc L st h = some o := by
  obtain ⟨ins, len, a, b, c, k⟩ := x
  cases ins
  case invokevirtual i =>
    have e : (bif k == 9 then jinvK j1 a b (pc + 3) L st h else jinvV j1 a b c (pc + 3) L st h) = some o := e
    show (bif k == 9 then jinvK j2 a b (pc + 3) L st h else jinvV j2 a b c (pc + 3) L st h) = some o
    cases hb : (k == 9) with
    | true => rw [hb] at e; exact jinvK_ext hj e
    | false => rw [hb] at e; exact jinvV_ext hj e
  case invokespecial i =>
    have e : (bif c == 1 then jspec1 (pc + 3) L st h else jinvI j1 a b (pc + 3) L st h) = some o := e
    show (bif c == 1 then jspec1 (pc + 3) L st h else jinvI j2 a b (pc + 3) L st h) = some o
    cases hb : (c == 1) with
    | true => rw [hb] at e; exact e
    | false => rw [hb] at e; exact jinvI_ext hj e
  case invokestatic i =>
    have e : (bif c == 1 then jcopy (pc + 3) L st h else jinv j1 a b (pc + 3) L st h) = some o := e
    show (bif c == 1 then jcopy (pc + 3) L st h else jinv j2 a b (pc + 3) L st h) = some o
    cases hb : (c == 1) with
    | true => rw [hb] at e; exact e
    | false => rw [hb] at e; exact jinv_ext hj e
  all_goals exact e
theorem jcall_up {cs : Nat → Option (List Int32)} {F : Nat} : ∀ (d a : Nat) (vs : List Value) (h : List jE) (r : jR), jcall jmt cs F d a vs h = some r → jcall jmt cs F (d + 1) a vs h = some r
  | 0, _, _, _, _, e => by cases e
  | d + 1, a, vs, h, r, e => by
    unfold jcall at e ⊢
    cases hq : jmt a with
    | none => rw [hq] at e; cases e
    | some q =>
      rw [hq] at e
      simp only [] at e ⊢
      split at e
      · rename_i hc
        rw [if_pos hc]
        rcases Bool.eq_false_or_eq_true (a == 264) with hb9 | hb9
        · rw [hb9, cond_true] at e ⊢
          cases d with
          | zero => cases e
          | succ d =>
            unfold jnat at e ⊢
            split at e
            · exact e
            · cases e
        rw [hb9, cond_false] at e ⊢
        exact jrun_ext (fun a vs h r => jcall_up d a vs h r) (fun x pc L st h o => jexec_ext (fun a vs h r => jcall_up d a vs h r) x pc L st h o) _ _ _ e
      · cases e
theorem CallD.up {cs : Nat → Option (List Int32)} {d a : Nat} {vs : List Value} {h : List jE} {r : jR} : ∀ {e : Nat}, d ≤ e → CallD cs d a vs h r → CallD cs e a vs h r := by
  intro e he ⟨F0, k⟩
  refine ⟨F0, fun F hF => ?_⟩
  obtain ⟨n, rfl⟩ := Nat.exists_eq_add_of_le he
  clear he
  induction n with
  | zero => exact k F hF
  | succ n ih => exact jcall_up _ _ _ _ _ ih
