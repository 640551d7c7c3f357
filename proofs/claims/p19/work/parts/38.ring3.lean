/-! WHO STANDS BESIDE WHOM: the abstract rings, and what a turn, a vanishing, a bursting make of them -/
noncomputable def setR (r : Nat → List Nat) (b : Nat) (l : List Nat) : Nat → List Nat := fun x => if x = b then l else r x
theorem setR_at (r : Nat → List Nat) (b : Nat) (l : List Nat) : setR r b l b = l := if_pos rfl
theorem setR_ne (r : Nat → List Nat) {b x : Nat} (l : List Nat) (h : x ≠ b) : setR r b l x = r x := if_neg h
/-- the SIDES above 3 and those on GLASS; together: it never grows -/
noncomputable def wt (l : List Nat) : Nat := (l.length - 3) + l.count 16
noncomputable def Ur (r : Nat → List Nat) (al : Nat → Bool) : Nat := ((List.range 16).map (fun b => if al b then wt (r b) else 0)).sum
theorem sum_upd {f g : Nat → Nat} {b : Nat} : ∀ (n : Nat), b < n → (∀ x, x ≠ b → g x = f x) → ((List.range n).map g).sum + f b = ((List.range n).map f).sum + g b
  | 0, h, _ => absurd h (by omega)
  | n + 1, h, hx => by
    rw [List.range_succ, List.map_append, List.map_append, List.sum_append, List.sum_append]
    show _ + [g n].sum + _ = _ + [f n].sum + _
    simp only [List.sum_cons, List.sum_nil]
    by_cases e : b = n
    · subst e
      have : (List.range b).map g = (List.range b).map f := List.map_congr_left (fun x hx2 => hx x (by have := List.mem_range.mp hx2; omega))
      rw [this]
      omega
    · have := sum_upd (f := f) (g := g) n (by omega) hx
      rw [hx n (fun z => e z.symm)]
      omega
theorem sum_ge {f : Nat → Nat} {b : Nat} : ∀ (n : Nat), b < n → f b ≤ ((List.range n).map f).sum
  | 0, h => absurd h (by omega)
  | n + 1, h => by
    rw [List.range_succ, List.map_append, List.sum_append]
    show _ ≤ _ + [f n].sum
    simp only [List.sum_cons, List.sum_nil]
    by_cases e : b = n
    · subst e; omega
    · have := sum_ge (f := f) n (b := b) (by omega)
      omega
theorem Ur_set {r : Nat → List Nat} {al : Nat → Bool} {b : Nat} {l : List Nat} (hb : b < 16) (ha : al b = true) : Ur (setR r b l) al + wt (r b) = Ur r al + wt l := by
  have := sum_upd (f := fun b => if al b then wt (r b) else 0) (g := fun x => if al x then wt (setR r b l x) else 0) (b := b) 16 hb (fun x hx => by show (if al x then wt (setR r b l x) else 0) = _; rw [setR_ne r l hx])
  simp only [ha, if_true, setR_at] at this
  exact this
theorem Ur_ge {r : Nat → List Nat} {al : Nat → Bool} {b : Nat} (hb : b < 16) (ha : al b = true) : wt (r b) ≤ Ur r al := by
  have := sum_ge (f := fun b => if al b then wt (r b) else 0) (b := b) 16 hb
  simp only [ha, if_true] at this
  exact this
theorem len_sum {n : Nat} : ∀ (l : List Nat), (∀ x ∈ l, x < n) → l.length = ((List.range n).map (fun x => l.count x)).sum
  | [], _ => by
    have : ∀ n : Nat, ((List.range n).map (fun x => ([] : List Nat).count x)).sum = 0 := fun n => by
      induction n with
      | zero => rfl
      | succ n ih => rw [List.range_succ, List.map_append, List.sum_append, ih]; rfl
    rw [this]; rfl
  | y :: l, h => by
    have ih := len_sum l (fun x hx => h x (List.mem_cons_of_mem _ hx))
    have := sum_upd (f := fun x => l.count x) (g := fun x => (y :: l).count x) (b := y) n (h y List.mem_cons_self) (fun x hx => by show (y :: l).count x = _; rw [List.count_cons_of_ne (Ne.symm hx)])
    simp only [List.count_cons_self] at this
    rw [List.length_cons]
    omega
theorem sum_le1 {f : Nat → Nat} : ∀ (n : Nat), (∀ x, x < n → f x ≤ 1) → ((List.range n).map f).sum ≤ n
  | 0, _ => Nat.le_refl _
  | n + 1, h => by
    rw [List.range_succ, List.map_append, List.sum_append]
    show _ + [f n].sum ≤ _
    simp only [List.sum_cons, List.sum_nil]
    have := sum_le1 n (fun x hx => h x (by omega))
    have := h n (by omega)
    omega
/-- a ring without itself, no BUBBLE twice: at most 15 BUBBLES -/
theorem len_15 {l : List Nat} {b : Nat} (hb : b < 16) (h1 : ∀ x ∈ l, x ≤ 16) (h2 : b ∉ l) (h3 : ∀ x, x ≠ 16 → l.count x ≤ 1) : l.length ≤ l.count 16 + 15 := by
  have e := len_sum (n := 17) l (fun x hx => by have := h1 x hx; omega)
  rw [List.range_succ, List.map_append, List.sum_append] at e
  have e1 : ([16].map (fun x => l.count x)).sum = l.count 16 := by simp
  rw [e1] at e
  have u := sum_upd (f := fun x => l.count x) (g := fun x => if x = b then 1 else l.count x) (b := b) 16 hb (fun x hx => if_neg hx)
  have s := sum_le1 (f := fun x => if x = b then 1 else l.count x) 16 (fun x hx => by
    show (if x = b then 1 else l.count x) ≤ 1
    split
    · omega
    · exact h3 x (by omega))
  have z : l.count b = 0 := List.count_eq_zero_of_not_mem h2
  simp only [if_true] at u
  omega
/-- the rings are those of a graph -/
noncomputable def Gr (r : Nat → List Nat) (al : Nat → Bool) : Prop := (∀ b, b < 16 → al b = true → ∀ x ∈ r b, x ≤ 16 ∧ (x ≠ 16 → al x = true ∧ x ≠ b ∧ b ∈ r x)) ∧ (∀ b, b < 16 → al b = true → ∀ x, x ≠ 16 → (r b).count x ≤ 1) ∧ Ur r al ≤ 42
theorem Gr_len {r : Nat → List Nat} {al : Nat → Bool} {b : Nat} (h : Gr r al) (hb : b < 16) (ha : al b = true) : (r b).length ≤ 30 := by
  have u := Ur_ge (r := r) hb ha
  have u2 := h.2.2
  have l := len_15 hb (fun x hx => (h.1 b hb ha x hx).1) (fun w => ((h.1 b hb ha b w).2 (by omega)).2.1 rfl) (h.2.1 b hb ha)
  unfold wt at u
  omega
/-- the model's memory has these rings -/
noncomputable def RS (m : Mem) (r : Nat → List Nat) (al : Nat → Bool) : Prop := ∀ b, b < 16 → m 138 (12 + 50 * b) = (if al b then 1 else 0) ∧ (al b = true → rgAt m b (r b))
/-- what stands ahead, and behind -/
noncomputable def prv (l : List Nat) (x : Nat) : Nat := l.getD ((l.idxOf x + l.length - 1) % l.length) 0
noncomputable def nxt (l : List Nat) (x : Nat) : Nat := l.getD ((l.idxOf x + 1) % l.length) 0
theorem plc_in {l : List Nat} {x : Nat} (h : x ∈ l) : plc l x = o32 (l.idxOf x) := if_pos h
theorem ahead_s {m : Mem} {b x : Nat} {l : List Nat} (hb : b < 16) (hx : x ≤ 16) (h : rgAt m b l) (hm : x ∈ l) : fX9_ahead (o32 b) (o32 x) m = some (o32 (prv l x)) := by
  have hi := List.idxOf_lt_length_of_mem hm
  have h1 := h.1
  unfold fX9_ahead
  rw [placeIn_s hb hx h, plc_in hm]
  show ((fX9_at (o32 b) (o32 (l.idxOf x) - 1) m).bind fun q2 => some q2) = _
  have hz : (l.idxOf x + l.length - 1) % l.length < l.length := Nat.mod_lt _ (by omega)
  rw [at_s hb h hz]
  · show some (o32 l[(l.idxOf x + l.length - 1) % l.length]) = some (o32 (prv l x))
    unfold prv
    rw [List.getD_eq_getElem?_getD, List.getElem?_eq_getElem hz]
    rfl
  · have e : (o32 (l.idxOf x) - 1).toInt = (l.idxOf x : Int) - 1 := by
      rw [Int32.toInt_sub, o_ti (by omega)]
      have e1 : (1 : Int32).toInt = 1 := rfl
      rw [e1]
      exact Int.bmod_eq_of_le (by omega) (by omega)
    rw [e]
    by_cases h0 : l.idxOf x = 0
    · right; right
      rw [h0, Nat.zero_add, Nat.mod_eq_of_lt (by omega)]
      omega
    · left
      have : l.idxOf x + l.length - 1 = (l.idxOf x - 1) + l.length := by omega
      rw [this, Nat.add_mod_right, Nat.mod_eq_of_lt (by omega)]
      omega
theorem behind_s {m : Mem} {b x : Nat} {l : List Nat} (hb : b < 16) (hx : x ≤ 16) (h : rgAt m b l) (hm : x ∈ l) : fX9_behind (o32 b) (o32 x) m = some (o32 (nxt l x)) := by
  have hi := List.idxOf_lt_length_of_mem hm
  have h1 := h.1
  unfold fX9_behind
  rw [placeIn_s hb hx h, plc_in hm]
  show ((fX9_at (o32 b) (o32 (l.idxOf x) + 1) m).bind fun q2 => some q2) = _
  have hz : (l.idxOf x + 1) % l.length < l.length := Nat.mod_lt _ (by omega)
  rw [at_s hb h hz]
  · show some (o32 l[(l.idxOf x + 1) % l.length]) = some (o32 (nxt l x))
    unfold nxt
    rw [List.getD_eq_getElem?_getD, List.getElem?_eq_getElem hz]
    rfl
  · rw [o_s, o_ti (by omega)]
    by_cases h0 : l.idxOf x + 1 = l.length
    · right; left
      rw [h0, Nat.mod_self]
      omega
    · left
      rw [Nat.mod_eq_of_lt (by omega)]
theorem prv_mem {l : List Nat} {x : Nat} (h : x ∈ l) : prv l x ∈ l := by
  have hi := List.idxOf_lt_length_of_mem h
  unfold prv
  have hz : (l.idxOf x + l.length - 1) % l.length < l.length := Nat.mod_lt _ (by omega)
  rw [List.getD_eq_getElem?_getD, List.getElem?_eq_getElem hz]
  exact List.getElem_mem hz
theorem nxt_mem {l : List Nat} {x : Nat} (h : x ∈ l) : nxt l x ∈ l := by
  have hi := List.idxOf_lt_length_of_mem h
  unfold nxt
  have hz : (l.idxOf x + 1) % l.length < l.length := Nat.mod_lt _ (by omega)
  rw [List.getD_eq_getElem?_getD, List.getElem?_eq_getElem hz]
  exact List.getElem_mem hz
theorem count_two {l : List Nat} {x i j : Nat} (hc : l.count x ≤ 1) (hi : i < l.length) (hj : j < l.length) (h1 : l[i] = x) (h2 : l[j] = x) : i = j := by
  have key : ∀ (l : List Nat) (i j : Nat) (hi : i < l.length) (hj : j < l.length), i < j → l[i] = x → l[j] = x → 2 ≤ l.count x := by
    intro l
    induction l with
    | nil => intro i j hi; exact absurd hi (by simp)
    | cons a l ih =>
      intro i j hi hj hij e1 e2
      cases j with
      | zero => omega
      | succ j =>
        have e2 : l[j]'(by simpa using hj) = x := e2
        have hm : 1 ≤ l.count x := List.count_pos_iff.mpr (by rw [← e2]; exact List.getElem_mem _)
        cases i with
        | zero =>
          have e1 : a = x := e1
          rw [e1, List.count_cons_self]
          omega
        | succ i =>
          have := ih i j (by simpa using hi) (by simpa using hj) (by omega) e1 e2
          rw [List.count_cons]
          omega
  rcases Nat.lt_trichotomy i j with h | h | h
  · have := key l i j hi hj h h1 h2; omega
  · exact h
  · have := key l j i hj hi h h2 h1; omega
theorem idx_get {l : List Nat} {x : Nat} (h : x ∈ l) : l[l.idxOf x]'(List.idxOf_lt_length_of_mem h) = x := List.getElem_idxOf _
theorem prv_ne {l : List Nat} {x : Nat} (h : x ∈ l) (hc : l.count x ≤ 1) (hl : 2 ≤ l.length) : prv l x ≠ x := by
  intro e
  have hi := List.idxOf_lt_length_of_mem h
  have hz : (l.idxOf x + l.length - 1) % l.length < l.length := Nat.mod_lt _ (by omega)
  have e2 : l[(l.idxOf x + l.length - 1) % l.length] = x := by
    unfold prv at e
    rw [List.getD_eq_getElem?_getD, List.getElem?_eq_getElem hz] at e
    exact e
  have e3 := count_two hc hz hi e2 (idx_get h)
  by_cases h0 : l.idxOf x = 0
  · rw [h0, Nat.zero_add, Nat.mod_eq_of_lt (by omega)] at e3
    omega
  · have : l.idxOf x + l.length - 1 = (l.idxOf x - 1) + l.length := by omega
    rw [this, Nat.add_mod_right, Nat.mod_eq_of_lt (by omega)] at e3
    omega
theorem nxt_ne {l : List Nat} {x : Nat} (h : x ∈ l) (hc : l.count x ≤ 1) (hl : 2 ≤ l.length) : nxt l x ≠ x := by
  intro e
  have hi := List.idxOf_lt_length_of_mem h
  have hz : (l.idxOf x + 1) % l.length < l.length := Nat.mod_lt _ (by omega)
  have e2 : l[(l.idxOf x + 1) % l.length] = x := by
    unfold nxt at e
    rw [List.getD_eq_getElem?_getD, List.getElem?_eq_getElem hz] at e
    exact e
  have e3 := count_two hc hz hi e2 (idx_get h)
  by_cases h0 : l.idxOf x + 1 = l.length
  · rw [h0, Nat.mod_self] at e3
    omega
  · rw [Nat.mod_eq_of_lt (by omega)] at e3
    omega
