/-! A BURSTING keeps the graph and the faces -/
theorem nxt_rot {X Y : List Nat} {y : Nat} (hy : y ∈ X ++ Y) (cy : (X ++ Y).count y ≤ 1) : nxt (X ++ Y) y = nxt (Y ++ X) y ∧ prv (X ++ Y) y = prv (Y ++ X) y := by
  rw [List.count_append] at cy
  rcases List.mem_append.mp hy with z | z
  · have h0 := List.count_pos_iff.mpr z
    have hn : y ∉ Y := fun w => by have := List.count_pos_iff.mpr w; omega
    obtain ⟨P, Q, e, h1, h2⟩ := split1 z (by omega)
    rw [e, show P ++ y :: Q ++ Y = P ++ y :: (Q ++ Y) by simp, show Y ++ (P ++ y :: Q) = (Y ++ P) ++ y :: Q by simp, nxt_sp h1, prv_sp h1, nxt_sp (by simp [hn, h1]), prv_sp (by simp [hn, h1])]
    simp
  · have h0 := List.count_pos_iff.mpr z
    have hn : y ∉ X := fun w => by have := List.count_pos_iff.mpr w; omega
    obtain ⟨P, Q, e, h1, h2⟩ := split1 z (by omega)
    rw [e, show X ++ (P ++ y :: Q) = (X ++ P) ++ y :: Q by simp, show P ++ y :: Q ++ X = P ++ y :: (Q ++ X) by simp, nxt_sp h1, prv_sp h1, nxt_sp (by simp [hn, h1]), prv_sp (by simp [hn, h1])]
    simp
theorem seamA_sp {X Y : List Nat} {b : Nat} : seamA (X ++ b :: Y) X.length = Y ++ X := by
  have hl : (X ++ b :: Y).length = X.length + Y.length + 1 := by simp; omega
  unfold seamA
  apply List.ext_getElem?
  intro k
  rw [hl]
  by_cases hk : k < X.length + Y.length
  · rw [List.getElem?_map, List.getElem?_range (by omega)]
    show some ((X ++ b :: Y).getD ((X.length + (1 + k)) % (X.length + Y.length + 1)) 0) = _
    by_cases h2 : k < Y.length
    · rw [Nat.mod_eq_of_lt (by omega), List.getElem?_append_left h2, List.getD_eq_getElem?_getD, List.getElem?_append_right (by omega), show X.length + (1 + k) - X.length = k + 1 by omega, List.getElem?_cons_succ, List.getElem?_eq_getElem h2]
      rfl
    · rw [show X.length + (1 + k) = (k - Y.length) + (X.length + Y.length + 1) by omega, Nat.add_mod_right, Nat.mod_eq_of_lt (by omega), List.getElem?_append_right (by omega), List.getD_eq_getElem?_getD, List.getElem?_append_left (by omega), List.getElem?_eq_getElem (by omega : k - Y.length < X.length)]
      rfl
  · rw [List.getElem?_eq_none (by simp; omega), List.getElem?_eq_none (by simp; omega)]
theorem seamB_A (l : List Nat) (q : Nat) : seamB l q = ((seamA l q).drop 1).take (l.length - 3) := by
  unfold seamA seamB
  apply List.ext_getElem?
  intro k
  by_cases hk : k < l.length - 3
  · rw [List.getElem?_map, List.getElem?_range hk, List.getElem?_take_of_lt hk, List.getElem?_drop, List.getElem?_map, List.getElem?_range (by omega)]
    show some (l.getD ((q + (2 + k)) % l.length) 0) = some (l.getD ((q + (1 + (1 + k))) % l.length) 0)
    rw [show q + (1 + (1 + k)) = q + (2 + k) by omega]
  · rw [List.getElem?_eq_none (by simp; omega), List.getElem?_eq_none (by simp; omega)]
/-- a ring from b on -/
theorem cyc_at {l : List Nat} {b : Nat} (hb : b ∈ l) (cb : l.count b ≤ 1) : ∃ L, seamA l (l.idxOf b) = L ∧ l.length = L.length + 1 ∧ (∀ z, l.count z = (b :: L).count z) ∧ (∀ y, y ∈ l → l.count y ≤ 1 → nxt l y = nxt (b :: L) y ∧ prv l y = prv (b :: L) y) := by
  obtain ⟨X, Y, e, h1, h2⟩ := split1 hb cb
  have hi : l.idxOf b = X.length := by
    rw [e, List.idxOf_append, if_neg h1]
    simp
  refine ⟨Y ++ X, by rw [hi, e]; exact seamA_sp, by rw [e]; simp; omega, fun z => ?_, fun y hy cy => ?_⟩
  · rw [e, List.count_append, List.count_cons, List.count_cons, List.count_append]
    omega
  · rw [e] at hy cy ⊢
    have := nxt_rot hy cy
    exact this
/-- the two rings and the seam of a wall that bursts -/
theorem faces_ab {r : Nat → List Nat} {al : Nat → Bool} {a b : Nat} (ha : a < 16) (hb : b < 16) (hg : Gr r al) (hf : FC r al) (ala : al a = true) (alb : al b = true) (hab : b ∈ r a) (hcd : prv (r a) b ≠ nxt (r a) b) :
    ∃ A B, (∀ z, (r a).count z = (b :: nxt (r a) b :: (A ++ [prv (r a) b])).count z) ∧ (∀ z, (r b).count z = (a :: prv (r a) b :: (B ++ [nxt (r a) b])).count z) ∧ seam r a b = nxt (r a) b :: (A ++ prv (r a) b :: B) ∧
      (∀ y, y ∈ r a → y ≠ 16 → nxt (r a) y = nxt (b :: nxt (r a) b :: (A ++ [prv (r a) b])) y ∧ prv (r a) y = prv (b :: nxt (r a) b :: (A ++ [prv (r a) b])) y) ∧
      (∀ y, y ∈ r b → y ≠ 16 → nxt (r b) y = nxt (a :: prv (r a) b :: (B ++ [nxt (r a) b])) y ∧ prv (r b) y = prv (a :: prv (r a) b :: (B ++ [nxt (r a) b])) y) ∧ (r a).length = A.length + 3 ∧ (r b).length = B.length + 3 := by
  have cnt := hg.2.1
  have ba := (hg.1 a ha ala b hab).2 (by omega)
  have hab2 := ba.2.2
  have f1 : prv (r b) a = nxt (r a) b := (hf a ha ala b hab (by omega)).symm
  have f2 : nxt (r b) a = prv (r a) b := hf b hb alb a hab2 (by omega)
  obtain ⟨La, s1, l1, c1, n1⟩ := cyc_at hab (cnt a ha ala b (by omega))
  obtain ⟨Lb, s2, l2, c2, n2⟩ := cyc_at hab2 (cnt b hb alb a (by omega))
  have q1 := n1 b hab (cnt a ha ala b (by omega))
  have q2 := n2 a hab2 (cnt b hb alb a (by omega))
  have m1 : nxt (b :: La) b = hd (La ++ [b]) := nxt_sp (A := []) (B := La) (by simp)
  have m2 : prv (b :: La) b = hd (La.reverse ++ [b]) := prv_sp (A := []) (B := La) (by simp)
  have m3 : nxt (a :: Lb) a = hd (Lb ++ [a]) := nxt_sp (A := []) (B := Lb) (by simp)
  have m4 : prv (a :: Lb) a = hd (Lb.reverse ++ [a]) := prv_sp (A := []) (B := Lb) (by simp)
  have shape : ∀ (L : List Nat) (x : Nat), hd (L ++ [x]) ≠ hd (L.reverse ++ [x]) → ∃ M, L = hd (L ++ [x]) :: (M ++ [hd (L.reverse ++ [x])]) := by
    intro L x h
    cases L with
    | nil => exact absurd rfl h
    | cons p L =>
      rcases ends L with rfl | ⟨M, z, rfl⟩
      · exact absurd rfl h
      · exact ⟨M, by simp [hd]⟩
  obtain ⟨A, eA⟩ := shape La b (by rw [← m1, ← m2, ← q1.1, ← q1.2]; exact hcd.symm)
  obtain ⟨B, eB⟩ := shape Lb a (by rw [← m3, ← m4, ← q2.1, ← q2.2, f1, f2]; exact hcd)
  rw [← m1, ← m2, ← q1.1, ← q1.2] at eA
  rw [← m3, ← m4, ← q2.1, ← q2.2, f1, f2] at eB
  refine ⟨A, B, fun z => by rw [c1, ← eA], fun z => by rw [c2, ← eB], ?_, fun y hy h16 => by rw [← eA]; exact n1 y hy (cnt a ha ala y h16), fun y hy h16 => by rw [← eB]; exact n2 y hy (cnt b hb alb y h16), by rw [l1, eA]; simp, by rw [l2, eB]; simp⟩
  unfold seam
  rw [seamB_A, s1, s2, l2]
  have e3 : (Lb.drop 1).take (Lb.length + 1 - 3) = B := by
    rw [eB]
    simp
  rw [e3]
  conv => lhs; rw [eA]
  simp
