/-! how the list of cells grows -/
noncomputable def jPq (h h' : List jE) : Prop := h.length ≤ h'.length ∧ jsl h ≤ jsl h' ∧ (h.length ≤ jK0 → h'.length ≤ jK0) ∧ (h'.length = h.length → jsl h' = jsl h)
noncomputable def jhq (o : jC ⊕ jR) : List jE := match o with
  | .inl c => c.2.2.2
  | .inr r => r.2
theorem jPq_rfl (h : List jE) : jPq h h := ⟨Nat.le_refl _, Nat.le_refl _, fun z => z, fun _ => rfl⟩
theorem jPq_tr {a b c : List jE} (h1 : jPq a b) (h2 : jPq b c) : jPq a c := ⟨Nat.le_trans h1.1 h2.1, Nat.le_trans h1.2.1 h2.2.1, fun z => h2.2.2.1 (h1.2.2.1 z), fun z => by
  have a1 := h1.1
  have a2 := h2.1
  rw [h2.2.2.2 (by omega), h1.2.2.2 (by omega)]⟩
theorem jPq_set {h : List jE} {i : Nat} {e e' : jE} (he : h[i]? = some e) (hs : jsz e' = jsz e) : jPq h (h.set i e') := ⟨by rw [List.length_set]; exact Nat.le_refl _, by rw [jsl_set he hs]; exact Nat.le_refl _, fun z => by rw [List.length_set]; exact z, fun _ => jsl_set he hs⟩
theorem jPq_app {h g : List jE} (hz : h.length + g.length ≤ jK0) : jPq h (h ++ g) := ⟨by rw [List.length_append]; omega, by rw [jsl_app]; omega, fun _ => by rw [List.length_append]; exact hz, fun z => by
  rw [List.length_append] at z
  have : g = [] := List.length_eq_zero_iff.mp (by omega)
  rw [this, List.append_nil]⟩
theorem jmq_go {t : Nat} {L : List (Nat × Value)} {st : List Value} {h : List jE} {o : jC ⊕ jR} (he : jgo t L st h = some o) : jPq h (jhq o) := by
  cases he
  exact jPq_rfl h
theorem jmq_iast {t : Nat} {L : List (Nat × Value)} {st : List Value} {h : List jE} {o : jC ⊕ jR} (he : jiast t L st h = some o) : jPq h (jhq o) := by
  unfold jiast at he
  split at he
  · split at he
    · rename_i a ha
      split at he
      · cases he
        exact jPq_set ha (by simp [jsz])
      · cases he
    · cases he
  · cases he
theorem jmq_aast {t : Nat} {L : List (Nat × Value)} {st : List Value} {h : List jE} {o : jC ⊕ jR} (he : jaast t L st h = some o) : jPq h (jhq o) := by
  unfold jaast at he
  split at he
  · split at he
    · rename_i a ha
      split at he
      · cases he
        exact jPq_set ha (by simp [jsz])
      · cases he
    · cases he
  · cases he
theorem jmq_putf {ci k ty t : Nat} {L : List (Nat × Value)} {st : List Value} {h : List jE} {o : jC ⊕ jR} (he : jputf ci k ty t L st h = some o) : jPq h (jhq o) := by
  unfold jputf at he
  split at he
  · split at he
    · rename_i a ha
      rw [Bool.cond_eq_ite] at he
      split at he
      · cases he
        exact jPq_set ha (by simp [jsz])
      · cases he
    · cases he
  · cases he
theorem jmq_copy {t : Nat} {L : List (Nat × Value)} {st : List Value} {h : List jE} {o : jC ⊕ jR} (he : jcopy t L st h = some o) : jPq h (jhq o) := by
  unfold jcopy at he
  split at he
  · split at he
    · rename_i f g hf hg
      split at he
      · cases he
        exact jPq_set hg (by simp [jsz, jcpy_len])
      · cases he
    · cases he
  · cases he
theorem jmq_new {ci t : Nat} {dfl : List Value} {L : List (Nat × Value)} {st : List Value} {h : List jE} {o : jC ⊕ jR} (he : jnew ci t dfl L st h = some o) : jPq h (jhq o) := by
  unfold jnew at he
  cases hk : Nat.blt h.length jK0 with
  | false => rw [hk] at he; cases he
  | true =>
    rw [hk] at he
    cases he
    exact jPq_app (Nat.le_of_ble_eq_true hk)
theorem jmq_newa {t : Nat} {L : List (Nat × Value)} {st : List Value} {h : List jE} {o : jC ⊕ jR} (he : jnewa t L st h = some o) : jPq h (jhq o) := by
  unfold jnewa at he
  split at he
  · split at he
    · rename_i hc
      cases he
      exact jPq_app hc.2.2
    · cases he
  · cases he
theorem jmq_newq {k t : Nat} {L : List (Nat × Value)} {st : List Value} {h : List jE} {o : jC ⊕ jR} (he : jnewq k t L st h = some o) : jPq h (jhq o) := by
  unfold jnewq at he
  split at he
  · split at he
    · rename_i hc
      cases he
      exact jPq_app hc.2.2
    · cases he
  · cases he
theorem jmq_newg {k t : Nat} {L : List (Nat × Value)} {st : List Value} {h : List jE} {o : jC ⊕ jR} (he : jnewg k t L st h = some o) : jPq h (jhq o) := by
  unfold jnewg at he
  split at he
  · split at he
    · rename_i hc
      cases he
      refine jPq_app ?_
      rw [List.length_cons, List.length_replicate]
      have := hc.2.2.2.2
      omega
    · cases he
  · cases he
theorem jmq_inv {call : Nat → List Value → List jE → Option jR} (hc : ∀ (a : Nat) (vs : List Value) (h : List jE) (r : jR), call a vs h = some r → jPq h r.2) {a n t : Nat} {L : List (Nat × Value)} {st : List Value} {h : List jE} {o : jC ⊕ jR} (he : jinv call a n t L st h = some o) : jPq h (jhq o) := by
  unfold jinv at he
  split at he
  · split at he
    · rename_i v h' hr
      cases he
      exact hc _ _ _ _ hr
    · rename_i h' hr
      cases he
      exact hc _ _ _ _ hr
    · cases he
  · cases he
theorem jmq_invV {call : Nat → List Value → List jE → Option jR} (hc : ∀ (a : Nat) (vs : List Value) (h : List jE) (r : jR), call a vs h = some r → jPq h r.2) {a n ci t : Nat} {L : List (Nat × Value)} {st : List Value} {h : List jE} {o : jC ⊕ jR} (he : jinvV call a n ci t L st h = some o) : jPq h (jhq o) := by
  unfold jinvV at he
  split at he
  · split at he
    · rw [Bool.cond_eq_ite] at he
      split at he
      · exact jmq_inv hc he
      · cases he
    · cases he
  · cases he
theorem jmq_invK {call : Nat → List Value → List jE → Option jR} (hc : ∀ (a : Nat) (vs : List Value) (h : List jE) (r : jR), call a vs h = some r → jPq h r.2) {a n t : Nat} {L : List (Nat × Value)} {st : List Value} {h : List jE} {o : jC ⊕ jR} (he : jinvK call a n t L st h = some o) : jPq h (jhp o) := by
  unfold jinvK at he
  split at he
  · rw [Bool.cond_eq_ite] at he
    split at he
    · exact jmq_inv hc he
    · cases he
  · cases he
theorem jmq_invI {call : Nat → List Value → List jE → Option jR} (hc : ∀ (a : Nat) (vs : List Value) (h : List jE) (r : jR), call a vs h = some r → jPq h r.2) {a n t : Nat} {L : List (Nat × Value)} {st : List Value} {h : List jE} {o : jC ⊕ jR} (he : jinvI call a n t L st h = some o) : jPq h (jhq o) := by
  unfold jinvI at he
  split at he
  · exact jmq_inv hc he
  · cases he
theorem jmq_exec {cs : Nat → Option (List Int32)} {call : Nat → List Value → List jE → Option jR} (hc : ∀ (a : Nat) (vs : List Value) (h : List jE) (r : jR), call a vs h = some r → jPq h r.2) {nL : Nat} {ret : Option FieldType} {x : jI} {pc : Nat} {L : List (Nat × Value)} {st : List Value} {h : List jE} {o : jC ⊕ jR} (he : jexec cs call nL ret x pc L st h = some o) : jPq h (jhq o) := by
  obtain ⟨ins, len, a, b, c, k⟩ := x
  unfold jexec at he
  simp only [jloadI, jloadL, jloadA, jstoreI, jstoreA, jstoreL, jop1, jop2, jop2L, jshL, jiald, jaald, jalen, jgetf, jgetk, jbald, jtsw, jlsw, jret, jretA, jretV, jretL, jif, jicmp, Bool.cond_eq_ite] at he
  split at he
  all_goals first | exact jmq_go he | exact jmq_iast he | exact jmq_aast he | exact jmq_putf he | exact jmq_new he | exact jmq_newa he | exact jmq_newq he | exact jmq_newg he | exact jmq_inv hc he | exact jmq_invV hc he | (cases he; done) | skip
  all_goals (repeat' split at he)
  all_goals first | exact jmq_go he | (cases he; first | exact jPq_rfl h | done) | exact jmq_inv hc he | exact jmq_invI hc he | exact jmq_invV hc he | exact jmq_invK hc he | exact jmq_copy he
theorem jmq_run {cs : Nat → Option (List Int32)} {call : Nat → List Value → List jE → Option jR} (hc : ∀ (a : Nat) (vs : List Value) (h : List jE) (r : jR), call a vs h = some r → jPq h r.2) {nL : Nat} {ret : Option FieldType} {tab : Nat → Option jI} : ∀ (f : Nat) (c : jC) (r : jR), jrun cs call nL ret tab f c = some r → jPq c.2.2.2 r.2
  | 0, _, _, h => by cases h
  | f + 1, c, r, h => by
    unfold jrun at h
    unfold jstep at h
    cases ht : tab c.1 with
    | none => rw [ht] at h; cases h
    | some x =>
      rw [ht] at h
      cases he : jexec cs call nL ret x c.1 c.2.1 c.2.2.1 c.2.2.2 with
      | none => simp only [he] at h; cases h
      | some o =>
        have h1 := jmq_exec hc he
        cases o with
        | inl c' =>
          simp only [he] at h
          exact jPq_tr h1 (jmq_run hc f c' r h)
        | inr r' =>
          simp only [he] at h
          cases h
          exact h1
theorem jmq_call {mt : Nat → Option jM} {cs : Nat → Option (List Int32)} {F : Nat} : ∀ (d a : Nat) (vs : List Value) (h : List jE) (r : jR), jcall mt cs F d a vs h = some r → jPq h r.2
  | 0, _, _, _, _, h => by cases h
  | d + 1, a, vs, h, r, he => by
    unfold jcall at he
    split at he
    · cases he
    · split at he
      · cases hb9 : (a == 264) with
        | true =>
          rw [hb9, cond_true] at he
          unfold jnat at he
          split at he
          · split at he
            · cases he; exact jPq_rfl h
            · cases he
          · cases he
        | false =>
          rw [hb9, cond_false] at he
          exact jmq_run (jmq_call d) _ _ _ he
      · cases he
