/-! how the list of cells grows -/
def jP (h h' : List jE) : Prop := h.length ≤ h'.length ∧ jsl h ≤ jsl h' ∧ (h.length ≤ jK0 → h'.length ≤ jK0)
def jhp (o : jC ⊕ jR) : List jE := match o with
  | .inl c => c.2.2.2
  | .inr r => r.2
theorem jP_rfl (h : List jE) : jP h h := ⟨Nat.le_refl _, Nat.le_refl _, fun z => z⟩
theorem jP_tr {a b c : List jE} (h1 : jP a b) (h2 : jP b c) : jP a c := ⟨Nat.le_trans h1.1 h2.1, Nat.le_trans h1.2.1 h2.2.1, fun z => h2.2.2 (h1.2.2 z)⟩
theorem jP_set {h : List jE} {i : Nat} {e e' : jE} (he : h[i]? = some e) (hs : jsz e' = jsz e) : jP h (h.set i e') := ⟨by rw [List.length_set]; exact Nat.le_refl _, by rw [jsl_set he hs]; exact Nat.le_refl _, fun z => by rw [List.length_set]; exact z⟩
theorem jP_app {h g : List jE} (hz : h.length + g.length ≤ jK0) : jP h (h ++ g) := ⟨by rw [List.length_append]; omega, by rw [jsl_app]; omega, fun _ => by rw [List.length_append]; exact hz⟩
theorem jm_go {t : Nat} {L : List (Nat × Value)} {st : List Value} {h : List jE} {o : jC ⊕ jR} (he : jgo t L st h = some o) : jP h (jhp o) := by
  cases he
  exact jP_rfl h
theorem jm_iast {t : Nat} {L : List (Nat × Value)} {st : List Value} {h : List jE} {o : jC ⊕ jR} (he : jiast t L st h = some o) : jP h (jhp o) := by
  unfold jiast at he
  split at he
  · split at he
    · rename_i a ha
      split at he
      · cases he
        exact jP_set ha (by simp [jsz])
      · cases he
    · cases he
  · cases he
theorem jm_aast {t : Nat} {L : List (Nat × Value)} {st : List Value} {h : List jE} {o : jC ⊕ jR} (he : jaast t L st h = some o) : jP h (jhp o) := by
  unfold jaast at he
  split at he
  · split at he
    · rename_i a ha
      split at he
      · cases he
        exact jP_set ha (by simp [jsz])
      · cases he
    · cases he
  · cases he
theorem jm_putf {ci k ty t : Nat} {L : List (Nat × Value)} {st : List Value} {h : List jE} {o : jC ⊕ jR} (he : jputf ci k ty t L st h = some o) : jP h (jhp o) := by
  unfold jputf at he
  split at he
  · split at he
    · rename_i a ha
      rw [Bool.cond_eq_ite] at he
      split at he
      · cases he
        exact jP_set ha (by simp [jsz])
      · cases he
    · cases he
  · cases he
theorem jm_copy {t : Nat} {L : List (Nat × Value)} {st : List Value} {h : List jE} {o : jC ⊕ jR} (he : jcopy t L st h = some o) : jP h (jhp o) := by
  unfold jcopy at he
  split at he
  · split at he
    · rename_i f g hf hg
      split at he
      · cases he
        exact jP_set hg (by simp [jsz, jcpy_len])
      · cases he
    · cases he
  · cases he
theorem jm_new {ci t : Nat} {dfl : List Value} {L : List (Nat × Value)} {st : List Value} {h : List jE} {o : jC ⊕ jR} (he : jnew ci t dfl L st h = some o) : jP h (jhp o) := by
  unfold jnew at he
  cases hk : Nat.blt h.length jK0 with
  | false => rw [hk] at he; cases he
  | true =>
    rw [hk] at he
    cases he
    exact jP_app (Nat.le_of_ble_eq_true hk)
theorem jm_newa {t : Nat} {L : List (Nat × Value)} {st : List Value} {h : List jE} {o : jC ⊕ jR} (he : jnewa t L st h = some o) : jP h (jhp o) := by
  unfold jnewa at he
  split at he
  · split at he
    · rename_i hc
      cases he
      exact jP_app hc.2.2
    · cases he
  · cases he
theorem jm_newq {k t : Nat} {L : List (Nat × Value)} {st : List Value} {h : List jE} {o : jC ⊕ jR} (he : jnewq k t L st h = some o) : jP h (jhp o) := by
  unfold jnewq at he
  split at he
  · split at he
    · rename_i hc
      cases he
      exact jP_app hc.2.2
    · cases he
  · cases he
theorem jm_newg {k t : Nat} {L : List (Nat × Value)} {st : List Value} {h : List jE} {o : jC ⊕ jR} (he : jnewg k t L st h = some o) : jP h (jhp o) := by
  unfold jnewg at he
  split at he
  · split at he
    · rename_i hc
      cases he
      refine jP_app ?_
      rw [List.length_cons, List.length_replicate]
      have := hc.2.2.2.2
      omega
    · cases he
  · cases he
theorem jm_inv {call : Nat → List Value → List jE → Option jR} (hc : ∀ (a : Nat) (vs : List Value) (h : List jE) (r : jR), call a vs h = some r → jP h r.2) {a n t : Nat} {L : List (Nat × Value)} {st : List Value} {h : List jE} {o : jC ⊕ jR} (he : jinv call a n t L st h = some o) : jP h (jhp o) := by
  unfold jinv at he
  split at he
  · split at he
    · rename_i v h' hr
      cases he
      exact hc _ _ _ _ hr
    · rename_i h' hr
      cases he
      exact hc _ _ _ _ hr
    · cases he
  · cases he
theorem jm_invV {call : Nat → List Value → List jE → Option jR} (hc : ∀ (a : Nat) (vs : List Value) (h : List jE) (r : jR), call a vs h = some r → jP h r.2) {a n ci t : Nat} {L : List (Nat × Value)} {st : List Value} {h : List jE} {o : jC ⊕ jR} (he : jinvV call a n ci t L st h = some o) : jP h (jhp o) := by
  unfold jinvV at he
  split at he
  · split at he
    · rw [Bool.cond_eq_ite] at he
      split at he
      · exact jm_inv hc he
      · cases he
    · cases he
  · cases he
theorem jm_invK {call : Nat → List Value → List jE → Option jR} (hc : ∀ (a : Nat) (vs : List Value) (h : List jE) (r : jR), call a vs h = some r → jP h r.2) {a n t : Nat} {L : List (Nat × Value)} {st : List Value} {h : List jE} {o : jC ⊕ jR} (he : jinvK call a n t L st h = some o) : jP h (jhp o) := by
  unfold jinvK at he
  split at he
  · rw [Bool.cond_eq_ite] at he
    split at he
    · exact jm_inv hc he
    · cases he
  · cases he
theorem jm_invI {call : Nat → List Value → List jE → Option jR} (hc : ∀ (a : Nat) (vs : List Value) (h : List jE) (r : jR), call a vs h = some r → jP h r.2) {a n t : Nat} {L : List (Nat × Value)} {st : List Value} {h : List jE} {o : jC ⊕ jR} (he : jinvI call a n t L st h = some o) : jP h (jhp o) := by
  unfold jinvI at he
  split at he
  · exact jm_inv hc he
  · cases he
theorem jm_exec {cs : Nat → Option (List Int32)} {call : Nat → List Value → List jE → Option jR} (hc : ∀ (a : Nat) (vs : List Value) (h : List jE) (r : jR), call a vs h = some r → jP h r.2) {nL : Nat} {ret : Option FieldType} {x : jI} {pc : Nat} {L : List (Nat × Value)} {st : List Value} {h : List jE} {o : jC ⊕ jR} (he : jexec cs call nL ret x pc L st h = some o) : jP h (jhp o) := by
  obtain ⟨ins, len, a, b, c, k⟩ := x
  unfold jexec at he
  simp only [jloadI, jloadL, jloadA, jstoreI, jstoreA, jstoreL, jop1, jop2, jop2L, jshL, jiald, jaald, jalen, jgetf, jgetk, jbald, jtsw, jlsw, jret, jretA, jretV, jretL, jif, jicmp, Bool.cond_eq_ite] at he
  split at he
  all_goals first | exact jm_go he | exact jm_iast he | exact jm_aast he | exact jm_putf he | exact jm_new he | exact jm_newa he | exact jm_newq he | exact jm_newg he | exact jm_inv hc he | exact jm_invV hc he | (cases he; done) | skip
  all_goals (repeat' split at he)
  all_goals first | exact jm_go he | (cases he; first | exact jP_rfl h | done) | exact jm_inv hc he | exact jm_invI hc he | exact jm_invV hc he | exact jm_invK hc he | exact jm_copy he
theorem jm_run {cs : Nat → Option (List Int32)} {call : Nat → List Value → List jE → Option jR} (hc : ∀ (a : Nat) (vs : List Value) (h : List jE) (r : jR), call a vs h = some r → jP h r.2) {nL : Nat} {ret : Option FieldType} {tab : Nat → Option jI} : ∀ (f : Nat) (c : jC) (r : jR), jrun cs call nL ret tab f c = some r → jP c.2.2.2 r.2
  | 0, _, _, h => by cases h
  | f + 1, c, r, h => by
    unfold jrun at h
    unfold jstep at h
    cases ht : tab c.1 with
    | none => rw [ht] at h; cases h
    | some x =>
      rw [ht] at h
      cases he : jexec cs call nL ret x c.1 c.2.1 c.2.2.1 c.2.2.2 with
      | none => simp only [he] at h; cases h
      | some o =>
        have h1 := jm_exec hc he
        cases o with
        | inl c' =>
          simp only [he] at h
          exact jP_tr h1 (jm_run hc f c' r h)
        | inr r' =>
          simp only [he] at h
          cases h
          exact h1
theorem jm_call {mt : Nat → Option jM} {cs : Nat → Option (List Int32)} {F : Nat} : ∀ (d a : Nat) (vs : List Value) (h : List jE) (r : jR), jcall mt cs F d a vs h = some r → jP h r.2
  | 0, _, _, _, _, h => by cases h
  | d + 1, a, vs, h, r, he => by
    unfold jcall at he
    split at he
    · cases he
    · split at he
      · cases hb9 : (a == 264) with
        | true =>
          rw [hb9, cond_true] at he
          unfold jnat at he
          split at he
          · split at he
            · cases he; exact jP_rfl h
            · cases he
          · cases he
        | false =>
          rw [hb9, cond_false] at he
          exact jm_run (jm_call d) _ _ _ he
      · cases he
