/-! what a cell of the interpreter is in the machine's world -/
def jad (base : Nat) (ca : Nat → Nat) (i : Nat) : Nat := if i < jK0 then base + i else ca (i - jK0)
def jv (ad : Nat → Nat) : Value → Value
  | .ref i => .ref (ad i)
  | v => v
def jtr (cT : Nat → ClassId) (ad : Nat → Nat) : jE → va_E
  | .inl o => .inr (o.1, o.2.map (jv ad))
  | .inr (.inl a) => .inl (cT a.1, a.2.length, .inl (fun j => a.2.getD j 0))
  | .inr (.inr a) => .inl (cT a.1, a.2.length, .inr (.inr (.inr (.inr (fun j => (a.2.getD j none).map ad)))))
def jw (base : Nat) (cT : Nat → ClassId) (ad : Nat → Nat) (h : List jE) : va_W := h.mapIdx (fun i e => (base + i, jtr cT ad e))
theorem jv_cat (ad : Nat → Nat) (v : Value) : (jv ad v).category = v.category := by cases v <;> rfl
theorem jv_sum (ad : Nat → Nat) (st : List Value) : ((st.map (jv ad)).map fun v => v.category).sum = (st.map fun v => v.category).sum := by
  rw [List.map_map]
  congr 1
  apply List.map_congr_left
  intro v _
  exact jv_cat ad v
theorem jw_get {base : Nat} {cT : Nat → ClassId} {ad : Nat → Nat} {h : List jE} {i : Nat} {e : jE} (he : h[i]? = some e) : (jw base cT ad h)[i]? = some (base + i, jtr cT ad e) := by
  unfold jw
  rw [List.getElem?_mapIdx, he]
  rfl
theorem jw_of {base : Nat} {cT : Nat → ClassId} {ad : Nat → Nat} {h : List jE} {i : Nat} {q : Nat × va_E} (hq : (jw base cT ad h)[i]? = some q) : ∃ e, h[i]? = some e ∧ q = (base + i, jtr cT ad e) := by
  unfold jw at hq
  rw [List.getElem?_mapIdx] at hq
  cases he : h[i]? with
  | none => rw [he] at hq; cases hq
  | some e => rw [he] at hq; cases hq; exact ⟨e, rfl, rfl⟩
theorem jw_set {base : Nat} {cT : Nat → ClassId} {ad : Nat → Nat} {h : List jE} {i : Nat} {e : jE} : (jw base cT ad h).set i (base + i, jtr cT ad e) = jw base cT ad (h.set i e) := by
  unfold jw
  rw [List.mapIdx_set]
theorem jw_app {base : Nat} {cT : Nat → ClassId} {ad : Nat → Nat} {h : List jE} {e : jE} : jw base cT ad (h ++ [e]) = jw base cT ad h ++ [(base + h.length, jtr cT ad e)] := by
  unfold jw
  rw [List.mapIdx_append]
  simp
theorem jw_D {base : Nat} {cT : Nat → ClassId} {ad : Nat → Nat} {h : List jE} {A : Nat → Prop} (hA : ∀ q, base ≤ q → A q) : va_D A (jw base cT ad h) := by
  refine ⟨fun i j p q hi hj e => ?_, fun k q hk => ?_⟩
  · obtain ⟨e1, -, rfl⟩ := jw_of hi
    obtain ⟨e2, -, rfl⟩ := jw_of hj
    have e' : base + i = base + j := e
    omega
  · obtain ⟨e1, -, rfl⟩ := jw_of hk
    exact hA _ (Nat.le_add_right _ _)
theorem jad_lt {base : Nat} {ca : Nat → Nat} {i : Nat} (h : i < jK0) : jad base ca i = base + i := if_pos h
theorem jad_k {base : Nat} {ca : Nat → Nat} {i : Nat} : jad base ca (jK0 + i) = ca i := by
  unfold jad
  rw [if_neg (by omega), Nat.add_sub_cancel_left]
theorem jsum_set : ∀ (l : List Nat) (i x : Nat), l[i]? = some x → (l.set i x).sum = l.sum
  | [], _, _, _ => rfl
  | a :: l, 0, x, h => by
    cases h
    rfl
  | a :: l, i + 1, x, h => by
    show a + (l.set i x).sum = a + l.sum
    rw [jsum_set l i x h]
theorem jsl_set {h : List jE} {i : Nat} {e e' : jE} (he : h[i]? = some e) (hs : jsz e' = jsz e) : jsl (h.set i e') = jsl h := by
  unfold jsl
  rw [List.map_set]
  refine jsum_set _ _ _ ?_
  rw [List.getElem?_map, he, hs]
  rfl
theorem jsl_app (h g : List jE) : jsl (h ++ g) = jsl h + jsl g := by
  unfold jsl
  rw [List.map_append, List.sum_append]
theorem jget_mem : ∀ {L : List (Nat × Value)} {i : Nat} {v : Value}, jget L i = some v → ∃ k : Nat, L[k]? = some (i, v)
  | [], _, _, h => by cases h
  | q :: r, i, v, h => by
    unfold jget at h
    cases e : (q.1 == i) with
    | true =>
      rw [e] at h
      cases h
      refine ⟨0, ?_⟩
      rw [← eq_of_beq e]
      rfl
    | false =>
      rw [e] at h
      obtain ⟨k, hk⟩ := jget_mem (L := r) h
      exact ⟨k + 1, hk⟩
def jL (ad : Nat → Nat) (L : List (Nat × Value)) : List (Nat × Value) := L.map (fun q => (q.1, jv ad q.2))
theorem jL_get {ad : Nat → Nat} {ls : Array Slot} {nL : Nat} {L : List (Nat × Value)} (hl : lv_has ls nL (jL ad L)) {i : Nat} {v : Value} (h : jget L i = some v) : ls[i]? = some (.val (jv ad v)) := by
  obtain ⟨k, hk⟩ := jget_mem h
  refine lv_at hl k (i := i) ?_
  unfold jL
  rw [List.getElem?_map, hk]
  rfl
theorem jL_put (ad : Nat → Nat) (L : List (Nat × Value)) (i : Nat) (v : Value) : (i, jv ad v) :: (jL ad L).filter (fun q => !(q.1 == i) && !(q.1 + 1 == i && q.2.category == 2)) = jL ad (jput L i v) := by
  unfold jL jput
  rw [List.map_cons, List.filter_map]
  congr 2
  apply List.filter_congr
  intro q _
  simp only [Function.comp, jv_cat]
theorem jL_put2 (ad : Nat → Nat) (L : List (Nat × Value)) (i : Nat) (v : Value) : (i, jv ad v) :: (jL ad L).filter (fun q => !(q.1 == i) && (!(q.1 == i + 1) && !(q.1 + 1 == i && q.2.category == 2))) = jL ad (jput2 L i v) := by
  unfold jL jput2
  rw [List.map_cons, List.filter_map]
  congr 2
  apply List.filter_congr
  intro q _
  simp only [Function.comp, jv_cat]
theorem jupd (l : List Int32) (k : Nat) (x : Int32) (h : k < l.length) : upd (fun j => l.getD j 0) k x = fun j => (l.set k x).getD j 0 := by
  funext j
  by_cases e : j = k
  · subst e
    simp [upd, List.getD, h]
  · simp [upd, e, List.getD, List.getElem?_set, Ne.symm e]
theorem jupq (ad : Nat → Nat) (l : List (Option Nat)) (k v : Nat) (h : k < l.length) : va_up (fun j => (l.getD j none).map ad) k (some (ad v)) = fun j => ((l.set k (some v)).getD j none).map ad := by
  funext j
  by_cases e : j = k
  · subst e
    simp [va_up, List.getD, h]
  · simp [va_up, e, List.getD, List.getElem?_set, Ne.symm e]
theorem jcpy_len (f g : List Int32) (sp dp n : Nat) : (jcpy f g sp dp n).length = g.length := by simp [jcpy]
theorem jcpy_f (f g : List Int32) (sp dp n : Nat) (h : dp + n ≤ g.length) : va_cpy (fun j => f.getD j 0) (fun j => g.getD j 0) sp dp n = fun j => (jcpy f g sp dp n).getD j 0 := by
  funext j
  unfold va_cpy jcpy
  rw [List.getD_eq_getElem?_getD, List.getElem?_map]
  by_cases e : j < g.length
  · rw [List.getElem?_range e]
    rfl
  · have e0 : (List.range g.length)[j]? = none := List.getElem?_eq_none (by rw [List.length_range]; omega)
    rw [e0, if_neg (by omega)]
    simp [List.getD, List.getElem?_eq_none (Nat.le_of_not_lt e)]
theorem jvp {l : List Int32} {j x : Int32} (h : jat l j = some x) : vp_in j l.length ∧ l.getD j.toNatClampNeg 0 = x := by
  unfold jat at h
  by_cases e : j < 0
  · rw [if_pos e] at h
    cases h
  · rw [if_neg e] at h
    refine ⟨fun q => q.elim e (fun z => ?_), by simp [List.getD, h]⟩
    have := (List.getElem?_eq_some_iff.mp h).1
    omega
