/-! RINGS AS CYCLES: who comes next, who ahead, when one goes out or comes in -/
noncomputable def hd (l : List Nat) : Nat := l.headD 0
theorem hd_c (a : Nat) (l : List Nat) : hd (a :: l) = a := rfl
theorem hd_n (l : List Nat) : hd ([] ++ l) = hd l := rfl
theorem ends (l : List Nat) : l = [] ∨ ∃ A z, l = A ++ [z] := by
  by_cases h : l = []
  · exact Or.inl h
  · exact Or.inr ⟨l.dropLast, l.getLast h, (List.dropLast_concat_getLast h).symm⟩
theorem nxt_sp {A B : List Nat} {x : Nat} (h : x ∉ A) : nxt (A ++ x :: B) x = hd (B ++ (A ++ [x])) := by
  have hi : (A ++ x :: B).idxOf x = A.length := by
    rw [List.idxOf_append, if_neg h]
    simp
  have hl : (A ++ x :: B).length = A.length + (B.length + 1) := by simp
  unfold nxt
  rw [hi, hl]
  cases B with
  | nil =>
    rw [show A.length + (([] : List Nat).length + 1) = A.length + 1 from rfl, Nat.mod_self]
    cases A with
    | nil => rfl
    | cons a A => rfl
  | cons y B =>
    rw [Nat.mod_eq_of_lt (by simp), List.getD_eq_getElem?_getD, List.getElem?_append_right (by omega)]
    rw [show A.length + 1 - A.length = 1 by omega]
    rfl
theorem prv_sp {A B : List Nat} {x : Nat} (h : x ∉ A) : prv (A ++ x :: B) x = hd (A.reverse ++ (B.reverse ++ [x])) := by
  have hi : (A ++ x :: B).idxOf x = A.length := by
    rw [List.idxOf_append, if_neg h]
    simp
  have hl : (A ++ x :: B).length = A.length + (B.length + 1) := by simp
  unfold prv
  rw [hi, hl]
  rcases ends A with rfl | ⟨A', z, rfl⟩
  · rw [show ([] : List Nat).length + (([] : List Nat).length + (B.length + 1)) - 1 = B.length by simp, Nat.mod_eq_of_lt (by simp)]
    rcases ends B with rfl | ⟨B', w, rfl⟩
    · rfl
    · rw [List.reverse_append]
      simp [hd, List.getD_eq_getElem?_getD]
  · have e : (A' ++ [z]).length + ((A' ++ [z]).length + (B.length + 1)) - 1 = A'.length + ((A' ++ [z]).length + (B.length + 1)) := by
      have : (A' ++ [z]).length = A'.length + 1 := by simp
      omega
    rw [e, Nat.add_mod_right, Nat.mod_eq_of_lt (by simp; omega), List.reverse_append]
    simp [hd, List.getD_eq_getElem?_getD]
theorem split1 {l : List Nat} {x : Nat} (h : x ∈ l) (hc : l.count x ≤ 1) : ∃ A B, l = A ++ x :: B ∧ x ∉ A ∧ x ∉ B := by
  obtain ⟨A, B, e⟩ := List.append_of_mem h
  refine ⟨A, B, e, fun z => ?_, fun z => ?_⟩
  · have := List.count_pos_iff.mpr z
    rw [e, List.count_append, List.count_cons_self] at hc
    omega
  · have := List.count_pos_iff.mpr z
    rw [e, List.count_append, List.count_cons_self] at hc
    omega
theorem rmv_sp {A B : List Nat} {x : Nat} (h : x ∉ A) : rmv (A ++ x :: B) x = A ++ B := by
  rw [rmv_eq, List.erase_append_right _ h, List.erase_cons_head]
theorem insb_sp {A B : List Nat} {p d : Nat} (h : p ∉ A) : insb (A ++ p :: B) p d = A ++ p :: d :: B := by
  unfold insb
  rw [if_pos (by simp), List.idxOf_append, if_neg h]
  have : List.idxOf p (p :: B) + A.length + 1 = A.length + 1 := by simp
  rw [this]
  induction A with
  | nil => rfl
  | cons a A ih =>
    have h' : p ∉ A := fun z => h (List.mem_cons_of_mem _ z)
    show a :: (A ++ p :: B).insertIdx (A.length + 1) d = _
    rw [ih h' (by simp)]
    rfl
/-- two of a ring, in one order or the other -/
theorem split2 {l : List Nat} {x y : Nat} (hx : x ∈ l) (hy : y ∈ l) (hn : x ≠ y) (cx : l.count x ≤ 1) (cy : l.count y ≤ 1) : ∃ A B C, (l = A ++ x :: (B ++ y :: C) ∨ l = A ++ y :: (B ++ x :: C)) ∧ x ∉ A ∧ x ∉ B ∧ x ∉ C ∧ y ∉ A ∧ y ∉ B ∧ y ∉ C := by
  obtain ⟨A, B, e, h1, h2⟩ := split1 hx cx
  have hm : y ∈ A ∨ y ∈ B := by
    rw [e] at hy
    rcases List.mem_append.mp hy with z | z
    · exact Or.inl z
    · rcases List.mem_cons.mp z with z | z
      · exact absurd z.symm hn
      · exact Or.inr z
  have cxy : A.count y + B.count y ≤ 1 := by
    rw [e, List.count_append, List.count_cons, if_neg (by simpa using hn)] at cy
    omega
  rcases hm with z | z
  · have := List.count_pos_iff.mpr z
    obtain ⟨A1, A2, e2, h3, h4⟩ := split1 z (by omega)
    refine ⟨A1, A2, B, Or.inr ?_, ?_, ?_, h2, h3, h4, fun w => ?_⟩
    · rw [e, e2]; simp
    · intro w; exact h1 (by rw [e2]; exact List.mem_append_left _ w)
    · intro w; exact h1 (by rw [e2]; exact List.mem_append_right _ (List.mem_cons_of_mem _ w))
    · have := List.count_pos_iff.mpr w; omega
  · have := List.count_pos_iff.mpr z
    obtain ⟨B1, B2, e2, h3, h4⟩ := split1 z (by omega)
    refine ⟨A, B1, B2, Or.inl ?_, h1, ?_, ?_, fun w => ?_, h3, h4⟩
    · rw [e, e2]
    · intro w; exact h2 (by rw [e2]; exact List.mem_append_left _ w)
    · intro w; exact h2 (by rw [e2]; exact List.mem_append_right _ (List.mem_cons_of_mem _ w))
    · have := List.count_pos_iff.mpr w; omega
theorem hd_mem {l : List Nat} (h : l ≠ []) : hd l ∈ l := by
  cases l with
  | nil => exact absurd rfl h
  | cons a l => exact List.mem_cons_self
theorem nxt_rmv {l : List Nat} {x y : Nat} (hx : x ∈ l) (hy : y ∈ l) (hn : x ≠ y) (cx : l.count x ≤ 1) (cy : l.count y ≤ 1) : nxt (rmv l x) y = if nxt l y = x then nxt l x else nxt l y := by
  obtain ⟨A, B, C, e, h1, h2, h3, h4, h5, h6⟩ := split2 hx hy hn cx cy
  rcases e with e | e
  · rw [e, rmv_sp h1]
    have n1 : nxt (A ++ x :: (B ++ y :: C)) y = hd (C ++ ((A ++ x :: B) ++ [y])) := by
      rw [show A ++ x :: (B ++ y :: C) = (A ++ x :: B) ++ y :: C by simp]
      exact nxt_sp (by simp [h4, h5, hn.symm])
    have n2 : nxt (A ++ (B ++ y :: C)) y = hd (C ++ ((A ++ B) ++ [y])) := by
      rw [show A ++ (B ++ y :: C) = (A ++ B) ++ y :: C by simp]
      exact nxt_sp (by simp [h4, h5])
    rw [n1, n2, nxt_sp h1]
    cases C with
    | cons c C =>
      have hc : c ≠ x := fun z => h3 (by simp [z])
      rw [if_neg (show ¬ hd (c :: C ++ _) = x from hc)]
      rfl
    | nil =>
      cases A with
      | cons a A =>
        have hc : a ≠ x := fun z => h1 (by simp [z])
        rw [if_neg (show ¬ hd ([] ++ (a :: A ++ x :: B ++ [y])) = x from hc)]
        rfl
      | nil =>
        rw [if_pos (show hd ([] ++ ([] ++ x :: B ++ [y])) = x from rfl)]
        cases B with
        | nil => rfl
        | cons b B => rfl
  · rw [e]
    have r1 : rmv (A ++ y :: (B ++ x :: C)) x = A ++ y :: (B ++ C) := by
      rw [show A ++ y :: (B ++ x :: C) = (A ++ y :: B) ++ x :: C by simp, rmv_sp (by simp [h1, h2, hn])]
      simp
    have n3 : nxt (A ++ y :: (B ++ x :: C)) x = hd (C ++ ((A ++ y :: B) ++ [x])) := by
      rw [show A ++ y :: (B ++ x :: C) = (A ++ y :: B) ++ x :: C by simp]
      exact nxt_sp (by simp [h1, h2, hn])
    rw [r1, nxt_sp h4, nxt_sp h4, n3]
    cases B with
    | cons b B =>
      have hc : b ≠ x := fun z => h2 (by simp [z])
      rw [if_neg (show ¬ hd (b :: B ++ x :: C ++ (A ++ [y])) = x from hc)]
      rfl
    | nil =>
      rw [if_pos (show hd ([] ++ x :: C ++ (A ++ [y])) = x from rfl)]
      cases C with
      | cons c C => rfl
      | nil =>
        cases A with
        | nil => rfl
        | cons a A => rfl
theorem nxt_insb {l : List Nat} {p d y : Nat} (hp : p ∈ l) (hy : y ∈ l) (cp : l.count p ≤ 1) (cy : l.count y ≤ 1) (hd1 : d ≠ p) (hd2 : d ≠ y) : nxt (insb l p d) y = if y = p then d else nxt l y := by
  by_cases e : y = p
  · subst e
    obtain ⟨A, B, e, h1, h2⟩ := split1 hy cy
    rw [if_pos rfl, e, insb_sp h1, nxt_sp h1]
    rfl
  · rw [if_neg e]
    obtain ⟨A, B, C, e2, h1, h2, h3, h4, h5, h6⟩ := split2 hp hy (fun z => e z.symm) cp cy
    rcases e2 with e2 | e2
    · rw [e2, insb_sp h1]
      have n1 : nxt (A ++ p :: (B ++ y :: C)) y = hd (C ++ ((A ++ p :: B) ++ [y])) := by
        rw [show A ++ p :: (B ++ y :: C) = (A ++ p :: B) ++ y :: C by simp]
        exact nxt_sp (by simp [h4, h5, e])
      have n2 : nxt (A ++ p :: d :: (B ++ y :: C)) y = hd (C ++ ((A ++ p :: d :: B) ++ [y])) := by
        rw [show A ++ p :: d :: (B ++ y :: C) = (A ++ p :: d :: B) ++ y :: C by simp]
        exact nxt_sp (by simp [h4, h5, e, hd2.symm])
      rw [n1, n2]
      cases C with
      | cons c C => rfl
      | nil =>
        cases A with
        | cons a A => rfl
        | nil => rfl
    · rw [e2, show A ++ y :: (B ++ p :: C) = (A ++ y :: B) ++ p :: C by simp, insb_sp (by simp [h1, h2, Ne.symm e])]
      rw [show (A ++ y :: B) ++ p :: d :: C = A ++ y :: (B ++ p :: d :: C) by simp, show (A ++ y :: B) ++ p :: C = A ++ y :: (B ++ p :: C) by simp, nxt_sp h4, nxt_sp h4]
      cases B with
      | cons b B => rfl
      | nil => rfl
theorem nxt_new {l : List Nat} {p d : Nat} (hp : p ∈ l) (cp : l.count p ≤ 1) (hd0 : d ∉ l) : nxt (insb l p d) d = nxt l p ∧ prv (insb l p d) d = p := by
  obtain ⟨A, B, e, h1, h2⟩ := split1 hp cp
  rw [e] at hd0
  have a1 : d ∉ A ++ [p] := fun z => hd0 (by
    rcases List.mem_append.mp z with z | z
    · exact List.mem_append_left _ z
    · exact List.mem_append_right _ (by rw [List.mem_singleton.mp z]; exact List.mem_cons_self))
  rw [e, insb_sp h1, show A ++ p :: d :: B = (A ++ [p]) ++ d :: B by simp, nxt_sp a1, nxt_sp h1, prv_sp a1]
  refine ⟨?_, ?_⟩
  · cases B with
    | cons b B => rfl
    | nil =>
      cases A with
      | cons a A => rfl
      | nil => rfl
  · simp [hd]
/-- nobody but the one ahead of x is followed by x -/
theorem nxt_prv {l : List Nat} {x y : Nat} (hx : x ∈ l) (hy : y ∈ l) (cx : l.count x ≤ 1) (cy : l.count y ≤ 1) : nxt l y = x ↔ prv l x = y := by
  by_cases e : x = y
  · subst e
    obtain ⟨A, B, e, h1, h2⟩ := split1 hx cx
    rw [e, nxt_sp h1, prv_sp h1]
    cases B with
    | cons b B =>
      have hb : b ≠ x := fun z => h2 (by simp [z])
      rcases ends A with rfl | ⟨A', z, rfl⟩
      · rcases ends B with rfl | ⟨B', w, rfl⟩
        · simp [hd]
        · have : w ≠ x := fun z => h2 (by simp [z])
          simp [hd, this, hb]
      · have : z ≠ x := fun w => h1 (by simp [w])
        simp [hd, this, hb]
    | nil =>
      rcases ends A with rfl | ⟨A', z, rfl⟩
      · simp [hd]
      · have hz : z ≠ x := fun w => h1 (by simp [w])
        cases A' with
        | nil => simp [hd, hz]
        | cons a A' =>
          have : a ≠ x := fun w => h1 (by simp [w])
          simp [hd, hz, this]
  · obtain ⟨A, B, C, e2, h1, h2, h3, h4, h5, h6⟩ := split2 hx hy e cx cy
    rcases e2 with e2 | e2
    · have n1 : nxt l y = hd (C ++ ((A ++ x :: B) ++ [y])) := by
        rw [e2, show A ++ x :: (B ++ y :: C) = (A ++ x :: B) ++ y :: C by simp]
        exact nxt_sp (by simp [h4, h5, Ne.symm e])
      rw [n1, e2, prv_sp h1]
      cases C with
      | cons c C =>
        have hc : c ≠ x := fun w => h3 (by simp [w])
        rcases ends A with rfl | ⟨A', z, rfl⟩
        · rcases ends C with rfl | ⟨C', w, rfl⟩
          · have : c ≠ y := fun w => h6 (by simp [w])
            simp [hd, hc, this]
          · have : w ≠ y := fun z => h6 (by simp [z])
            simp [hd, hc, this]
        · have : z ≠ y := fun w => h4 (by simp [w])
          simp [hd, hc, this]
      | nil =>
        rcases ends A with rfl | ⟨A', z, rfl⟩
        · simp [hd]
        · have hz : z ≠ y := fun w => h4 (by simp [w])
          cases A' with
          | nil =>
            have : z ≠ x := fun w => h1 (by simp [w])
            simp [hd, hz, this]
          | cons a A' =>
            have : a ≠ x := fun w => h1 (by simp [w])
            simp [hd, hz, this]
    · have p1 : prv l x = hd ((A ++ y :: B).reverse ++ (C.reverse ++ [x])) := by
        rw [e2, show A ++ y :: (B ++ x :: C) = (A ++ y :: B) ++ x :: C by simp]
        exact prv_sp (by simp [h1, h2, e])
      rw [p1, e2, nxt_sp h4]
      cases B with
      | nil => simp [hd]
      | cons b B =>
        have hb : b ≠ x := fun w => h2 (by simp [w])
        rcases ends B with rfl | ⟨B', w, rfl⟩
        · have : b ≠ y := fun w => h5 (by simp [w])
          simp [hd, hb, this]
        · have : w ≠ y := fun z => h5 (by simp [z])
          simp [hd, hb, this]
