/-! A BURSTING keeps the graph and the faces, the end of it -/
def sg (a b z : Nat) : Nat := if z = b then a else z
theorem sg_b (a b : Nat) : sg a b b = a := if_pos rfl
theorem sg_n {a b z : Nat} (h : z ≠ b) : sg a b z = z := if_neg h
theorem sg_idx {a b : Nat} {l : List Nat} (ha : a ∉ l) {y : Nat} (hy : y ∈ l) : (l.map (sg a b)).idxOf (sg a b y) = l.idxOf y := by
  induction l with
  | nil => cases hy
  | cons z l ih =>
    rw [List.map_cons, List.idxOf_cons, List.idxOf_cons]
    have hza : z ≠ a := fun e => ha (by rw [e]; exact List.mem_cons_self)
    have hya : y ≠ a := fun e => ha (by rw [← e]; exact hy)
    by_cases e : z = y
    · rw [e]; simp
    · have e2 : sg a b z ≠ sg a b y := by
        unfold sg
        split <;> split <;> omega
      rw [beq_false_of_ne e, beq_false_of_ne e2]
      have : y ∈ l := by
        rcases List.mem_cons.mp hy with h | h
        · exact absurd h.symm e
        · exact h
      simp only [cond_false]
      rw [ih (fun h => ha (List.mem_cons_of_mem _ h)) this]
theorem sg_nxt {a b : Nat} {l : List Nat} (ha : a ∉ l) {y : Nat} (hy : y ∈ l) : nxt (l.map (sg a b)) (sg a b y) = sg a b (nxt l y) ∧ prv (l.map (sg a b)) (sg a b y) = sg a b (prv l y) := by
  have hl : 0 < l.length := List.length_pos_of_mem hy
  have g : ∀ i, i < l.length → (l.map (sg a b)).getD i 0 = sg a b (l.getD i 0) := fun i hi => by
    rw [List.getD_eq_getElem?_getD, List.getElem?_map, List.getD_eq_getElem?_getD, List.getElem?_eq_getElem hi]
    rfl
  unfold nxt prv
  rw [sg_idx ha hy, List.length_map]
  exact ⟨g _ (Nat.mod_lt _ hl), g _ (Nat.mod_lt _ hl)⟩
theorem stand_map {l : List Nat} {a b : Nat} (ha : a ∉ l) (hb : b ∈ l) (cb : l.count b ≤ 1) : stand l a b = l.map (sg a b) := by
  unfold stand
  rw [if_neg ha]
  obtain ⟨P, Q, e, h1, h2⟩ := split1 hb cb
  have m : ∀ X : List Nat, b ∉ X → X.map (sg a b) = X := fun X h => by
    have : X.map (sg a b) = X.map id := List.map_congr_left (fun z hz => sg_n (fun e => h (by rw [← e]; exact hz)))
    rw [this, List.map_id]
  rw [e, List.idxOf_append, if_neg h1, List.map_append, List.map_cons, m P h1, m Q h2, sg_b]
  simp
theorem hdc (A : List Nat) (c : Nat) (X : List Nat) : hd (A ++ c :: X) = hd (A ++ [c]) := by cases A <;> rfl
theorem seam_l {A B : List Nat} {a b c d y : Nat} (ca : (b :: d :: (A ++ [c])).count y ≤ 1) (cb : (a :: c :: (B ++ [d])).count y ≤ 1) (cs : (d :: (A ++ c :: B)).count y ≤ 1) :
    (y = d → nxt (d :: (A ++ c :: B)) y = nxt (b :: d :: (A ++ [c])) y ∧ prv (d :: (A ++ c :: B)) y = prv (a :: c :: (B ++ [d])) y) ∧
    (y ∈ A → nxt (d :: (A ++ c :: B)) y = nxt (b :: d :: (A ++ [c])) y ∧ prv (d :: (A ++ c :: B)) y = prv (b :: d :: (A ++ [c])) y) ∧
    (y = c → nxt (d :: (A ++ c :: B)) y = nxt (a :: c :: (B ++ [d])) y ∧ prv (d :: (A ++ c :: B)) y = prv (b :: d :: (A ++ [c])) y) ∧
    (y ∈ B → nxt (d :: (A ++ c :: B)) y = nxt (a :: c :: (B ++ [d])) y ∧ prv (d :: (A ++ c :: B)) y = prv (a :: c :: (B ++ [d])) y) := by
  have nc : ∀ X : List Nat, X.count y = 0 → y ∉ X := fun X h w => by have := List.count_pos_iff.mpr w; omega
  simp only [List.count_cons, List.count_append, List.count_nil, beq_iff_eq] at ca cb cs
  refine ⟨fun e => ?_, fun hm => ?_, fun e => ?_, fun hm => ?_⟩
  · subst e
    simp only [if_true] at ca cb cs
    have n1 : y ∉ [b] := nc _ (by simp only [List.count_cons, List.count_nil, beq_iff_eq]; omega)
    have n2 : y ∉ a :: c :: B := nc _ (by simp only [List.count_cons, List.count_nil, beq_iff_eq]; omega)
    constructor
    · rw [show y :: (A ++ c :: B) = [] ++ y :: (A ++ c :: B) from rfl, nxt_sp (by simp), show b :: y :: (A ++ [c]) = [b] ++ y :: (A ++ [c]) from rfl, nxt_sp n1]
      simp only [List.nil_append, List.append_assoc, List.cons_append]
      exact (hdc _ _ _).trans (hdc _ _ _).symm
    · rw [show y :: (A ++ c :: B) = [] ++ y :: (A ++ c :: B) from rfl, prv_sp (by simp), show a :: c :: (B ++ [y]) = (a :: c :: B) ++ y :: [] by simp, prv_sp n2]
      simp only [List.reverse_cons, List.reverse_append, List.reverse_nil, List.nil_append, List.append_assoc, List.cons_append]
      exact (hdc _ _ _).trans (hdc _ _ _).symm
  · have hp := List.count_pos_iff.mpr hm
    obtain ⟨P, Q, e, h1, h2⟩ := split1 hm (by omega)
    have n1 : y ∉ d :: P := by
      intro w
      rcases List.mem_cons.mp w with w | w
      · rw [if_pos w.symm] at cs; omega
      · exact h1 w
    have n2 : y ∉ b :: d :: P := by
      intro w
      rcases List.mem_cons.mp w with w | w
      · rw [if_pos w.symm] at ca; omega
      · exact n1 w
    rw [e, show d :: (P ++ y :: Q ++ c :: B) = (d :: P) ++ y :: (Q ++ c :: B) by simp, show b :: d :: (P ++ y :: Q ++ [c]) = (b :: d :: P) ++ y :: (Q ++ [c]) by simp, nxt_sp n1, nxt_sp n2, prv_sp n1, prv_sp n2]
    constructor
    · simp only [List.append_assoc, List.cons_append]
      exact (hdc _ _ _).trans (hdc _ _ _).symm
    · simp only [List.reverse_cons, List.append_assoc, List.cons_append]
      exact (hdc _ _ _).trans (hdc _ _ _).symm
  · subst e
    simp only [if_true] at ca cb cs
    have n1 : y ∉ d :: A := nc _ (by simp only [List.count_cons, beq_iff_eq]; omega)
    have n2 : y ∉ b :: d :: A := nc _ (by simp only [List.count_cons, beq_iff_eq]; omega)
    have n3 : y ∉ [a] := nc _ (by simp only [List.count_cons, List.count_nil, beq_iff_eq]; omega)
    constructor
    · rw [show d :: (A ++ y :: B) = (d :: A) ++ y :: B by simp, nxt_sp n1, show a :: y :: (B ++ [d]) = [a] ++ y :: (B ++ [d]) from rfl, nxt_sp n3]
      simp only [List.append_assoc, List.cons_append]
      exact (hdc _ _ _).trans (hdc _ _ _).symm
    · rw [show d :: (A ++ y :: B) = (d :: A) ++ y :: B by simp, prv_sp n1, show b :: d :: (A ++ [y]) = (b :: d :: A) ++ y :: [] by simp, prv_sp n2]
      simp only [List.reverse_cons, List.append_assoc, List.cons_append]
      exact (hdc _ _ _).trans (hdc _ _ _).symm
  · have hp := List.count_pos_iff.mpr hm
    obtain ⟨P, Q, e, h1, h2⟩ := split1 hm (by omega)
    have n1 : y ∉ d :: (A ++ c :: P) := by
      intro w
      rcases List.mem_cons.mp w with w | w
      · rw [if_pos w.symm] at cs; omega
      · rcases List.mem_append.mp w with w | w
        · have := List.count_pos_iff.mpr w; omega
        · rcases List.mem_cons.mp w with w | w
          · rw [if_pos w.symm] at cs; omega
          · exact h1 w
    have n2 : y ∉ a :: c :: P := by
      intro w
      rcases List.mem_cons.mp w with w | w
      · rw [if_pos w.symm] at cb; omega
      · exact n1 (List.mem_cons_of_mem _ (List.mem_append_right _ w))
    rw [e, show d :: (A ++ c :: (P ++ y :: Q)) = (d :: (A ++ c :: P)) ++ y :: Q by simp, show a :: c :: (P ++ y :: Q ++ [d]) = (a :: c :: P) ++ y :: (Q ++ [d]) by simp, nxt_sp n1, nxt_sp n2, prv_sp n1, prv_sp n2]
    constructor
    · simp only [List.append_assoc, List.cons_append]
      exact (hdc _ _ _).trans (hdc _ _ _).symm
    · simp only [List.reverse_cons, List.reverse_append, List.append_assoc, List.cons_append]
      exact (hdc _ _ _).trans (hdc _ _ _).symm
