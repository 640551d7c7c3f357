/-! ONE ACT, BOTH SIDES: printed by wip/gen/gen_step.py -/
noncomputable def St (x : Int32) (b : Option ((Int32 × (Mem × Mem)) ⊕ (Int32 × (Mem × Mem)))) : Prop := ∃ m1 m2, b = some (.inl (x + 6, (m1, m2))) ∧ RLx m1 m2
theorem St_if {x : Int32} {P : Prop} [Decidable P] {a b : Option ((Int32 × (Mem × Mem)) ⊕ (Int32 × (Mem × Mem)))} (ha : St x a) (hb : St x b) : St x (if P then a else b) := by
  by_cases h : P
  · rw [if_pos h]; exact ha
  · rw [if_neg h]; exact hb
theorem step_o {xs : List Int32} {x a0 a1 a2 a3 a4 a5 : Int32} {mc mr : Mem} (R : RLx mc mr) (hx : ¬ (Int32.ofNat xs.length) - 6 < x) (j0 : jat xs x = some a0) (j1 : jat xs (x + 1) = some a1) (j2 : jat xs (x + 2) = some a2) (j3 : jat xs (x + 3) = some a3) (j4 : jat xs (x + 4) = some a4) (j5 : jat xs (x + 5) = some a5) : St x (lL_law_18 xs (x, (mc, mr))) := by
  unfold lL_law_18
  dsimp only
  rw [if_neg hx, j0, Option.bind_some]
  refine St_if ?_ ?_
  · obtain ⟨v, w, m1, m2, e1, e2, e3⟩ := Sm_Df (foam_o R a1 a2 a3)
    rw [j1, Option.bind_some, j2, Option.bind_some, j3, Option.bind_some, e1, Option.bind_some, Option.bind_some, Option.bind_some, Option.bind_some, e2, Option.bind_some]
    exact ⟨m1, m2, rfl, e3⟩
  refine St_if ?_ ?_
  · obtain ⟨v, w, m1, m2, e1, e2, e3⟩ := Sm_Df (bubbleIs_o R a1 a2)
    rw [j1, Option.bind_some, j2, Option.bind_some, e1, Option.bind_some, Option.bind_some, Option.bind_some, e2, Option.bind_some]
    exact ⟨m1, m2, rfl, e3⟩
  refine St_if ?_ ?_
  · obtain ⟨v, w, m1, m2, e1, e2, e3⟩ := Sm_Df (as_o R a1 a2)
    rw [j1, Option.bind_some, j2, Option.bind_some, e1, Option.bind_some, Option.bind_some, Option.bind_some, e2, Option.bind_some]
    exact ⟨m1, m2, rfl, e3⟩
  refine St_if ?_ ?_
  · obtain ⟨v, w, m1, m2, e1, e2, e3⟩ := Sm_Df (become_o R a1 a2)
    rw [j1, Option.bind_some, j2, Option.bind_some, e1, Option.bind_some, Option.bind_some, Option.bind_some, e2, Option.bind_some]
    exact ⟨m1, m2, rfl, e3⟩
  refine St_if ?_ ?_
  · obtain ⟨v, w, m1, m2, e1, e2, e3⟩ := Sm_Df (fill_o R a1 a2 a3)
    rw [j1, Option.bind_some, j2, Option.bind_some, j3, Option.bind_some, e1, Option.bind_some, Option.bind_some, Option.bind_some, Option.bind_some, e2, Option.bind_some]
    exact ⟨m1, m2, rfl, e3⟩
  refine St_if ?_ ?_
  · obtain ⟨v, w, m1, m2, e1, e2, e3⟩ := Sm_Df (ring_o R a1 a2)
    rw [j1, Option.bind_some, j2, Option.bind_some, e1, Option.bind_some, Option.bind_some, Option.bind_some, e2, Option.bind_some]
    exact ⟨m1, m2, rfl, e3⟩
  refine St_if ?_ ?_
  · obtain ⟨v, w, m1, m2, e1, e2, e3⟩ := Sm_Df (beside_o R a1 a2)
    rw [j1, Option.bind_some, j2, Option.bind_some, e1, Option.bind_some, Option.bind_some, Option.bind_some, e2, Option.bind_some]
    exact ⟨m1, m2, rfl, e3⟩
  refine St_if ?_ ?_
  · obtain ⟨v, w, m1, m2, e1, e2, e3⟩ := end_o R a1 a2 a3
    rw [j1, Option.bind_some, j2, Option.bind_some, j3, Option.bind_some, e1, Option.bind_some, Option.bind_some, Option.bind_some, Option.bind_some, e2, Option.bind_some]
    exact ⟨m1, m2, rfl, e3⟩
  refine St_if ?_ ?_
  · obtain ⟨v, w, m1, m2, e1, e2, e3⟩ := can_o R a1 a2 a3
    rw [j1, Option.bind_some, j2, Option.bind_some, j3, Option.bind_some, e1, Option.bind_some, Option.bind_some, Option.bind_some, Option.bind_some, e2, Option.bind_some]
    exact ⟨m1, m2, rfl, e3⟩
  refine St_if ?_ ?_
  · obtain ⟨v, w, m1, m2, e1, e2, e3⟩ := turn_o R a1 a2
    rw [j1, Option.bind_some, j2, Option.bind_some, e1, Option.bind_some, Option.bind_some, Option.bind_some, e2, Option.bind_some]
    exact ⟨m1, m2, rfl, e3⟩
  refine St_if ?_ ?_
  · obtain ⟨v, w, m1, m2, e1, e2, e3⟩ := Sm_Df (vanish_o R a1)
    rw [j1, Option.bind_some, e1, Option.bind_some, Option.bind_some, e2, Option.bind_some]
    exact ⟨m1, m2, rfl, e3⟩
  refine St_if ?_ ?_
  · obtain ⟨v, w, m1, m2, e1, e2, e3⟩ := burst_o R a1 a2
    rw [j1, Option.bind_some, j2, Option.bind_some, e1, Option.bind_some, Option.bind_some, Option.bind_some, e2, Option.bind_some]
    exact ⟨m1, m2, rfl, e3⟩
  refine St_if ?_ ?_
  · obtain ⟨v, w, m1, m2, e1, e2, e3⟩ := Sm_Df (feed_o R ((lShl (a1.toInt64) (32)) ||| ((a2.toInt64) &&& (4294967295 : Int64))) a3)
    rw [j1, Option.bind_some, j2, Option.bind_some, j3, Option.bind_some, e1, Option.bind_some, Option.bind_some, Option.bind_some, Option.bind_some, e2, Option.bind_some]
    exact ⟨m1, m2, rfl, e3⟩
  refine St_if ?_ ?_
  · obtain ⟨v, w, m1, m2, e1, e2, e3⟩ := Sm_Df (text_o R a1)
    rw [j1, Option.bind_some, e1, Option.bind_some, Option.bind_some, e2, Option.bind_some]
    exact ⟨m1, m2, rfl, e3⟩
  refine St_if ?_ ?_
  · obtain ⟨v, w, m1, m2, e1, e2, e3⟩ := Sm_Df (untell_o R a1)
    rw [j1, Option.bind_some, e1, Option.bind_some, Option.bind_some, e2, Option.bind_some]
    exact ⟨m1, m2, rfl, e3⟩
  refine St_if ?_ ?_
  · obtain ⟨v, w, m1, m2, e1, e2, e3⟩ := Sm_Df (rule_o R a1 a2)
    rw [j1, Option.bind_some, j2, Option.bind_some, e1, Option.bind_some, Option.bind_some, Option.bind_some, e2, Option.bind_some]
    exact ⟨m1, m2, rfl, e3⟩
  refine St_if ?_ ?_
  · obtain ⟨v, w, m1, m2, e1, e2, e3⟩ := passes_o R a1 a2
    rw [j1, Option.bind_some, j2, Option.bind_some, e1, Option.bind_some, Option.bind_some, Option.bind_some, e2, Option.bind_some]
    exact ⟨m1, m2, rfl, e3⟩
  refine St_if ?_ ?_
  · obtain ⟨v, w, m1, m2, e1, e2, e3⟩ := Sm_Df (tick_o R a1)
    rw [j1, Option.bind_some, e1, Option.bind_some, Option.bind_some, e2, Option.bind_some]
    exact ⟨m1, m2, rfl, e3⟩
  refine St_if ?_ ?_
  · obtain ⟨v, w, m1, m2, e1, e2, e3⟩ := Sm_Df (stands_o R a1 a2)
    rw [j1, Option.bind_some, j2, Option.bind_some, e1, Option.bind_some, Option.bind_some, Option.bind_some, e2, Option.bind_some]
    exact ⟨m1, m2, rfl, e3⟩
  refine St_if ?_ ?_
  · obtain ⟨v, w, m1, m2, e1, e2, e3⟩ := Sm_Df (seed_o R a1)
    rw [j1, Option.bind_some, e1, Option.bind_some, Option.bind_some, e2, Option.bind_some]
    exact ⟨m1, m2, rfl, e3⟩
  refine St_if ?_ ?_
  · obtain ⟨v, w, m1, m2, e1, e2, e3⟩ := Sm_Df (all_o R a1)
    rw [j1, Option.bind_some, e1, Option.bind_some, Option.bind_some, e2, Option.bind_some]
    exact ⟨m1, m2, rfl, e3⟩
  refine St_if ?_ ?_
  · obtain ⟨v, w, m1, m2, e1, e2, e3⟩ := Sm_Df (pace_o R a1)
    rw [j1, Option.bind_some, e1, Option.bind_some, Option.bind_some, e2, Option.bind_some]
    exact ⟨m1, m2, rfl, e3⟩
  refine St_if ?_ ?_
  · obtain ⟨v, w, m1, m2, e1, e2, e3⟩ := Sm_Df (sides_o R a1)
    rw [j1, Option.bind_some, e1, Option.bind_some, Option.bind_some, e2, Option.bind_some]
    exact ⟨m1, m2, rfl, e3⟩
  refine St_if ?_ ?_
  · obtain ⟨v, w, m1, m2, e1, e2, e3⟩ := Sm_Df (around_o R a1)
    rw [j1, Option.bind_some, e1, Option.bind_some, Option.bind_some, e2, Option.bind_some]
    exact ⟨m1, m2, rfl, e3⟩
  refine St_if ?_ ?_
  · obtain ⟨v, w, m1, m2, e1, e2, e3⟩ := Sm_Df (first_o R a1)
    rw [j1, Option.bind_some, e1, Option.bind_some, Option.bind_some, e2, Option.bind_some]
    exact ⟨m1, m2, rfl, e3⟩
  refine St_if ?_ ?_
  · obtain ⟨v, w, m1, m2, e1, e2, e3⟩ := Sm_Df (way_o R a1 a2)
    rw [j1, Option.bind_some, j2, Option.bind_some, e1, Option.bind_some, Option.bind_some, Option.bind_some, e2, Option.bind_some]
    exact ⟨m1, m2, rfl, e3⟩
  refine St_if ?_ ?_
  · obtain ⟨v, w, m1, m2, e1, e2, e3⟩ := colour_o R a1 a2
    rw [j1, Option.bind_some, j2, Option.bind_some, e1, Option.bind_some, Option.bind_some, Option.bind_some, e2, Option.bind_some]
    exact ⟨m1, m2, rfl, e3⟩
  refine St_if ?_ ?_
  · obtain ⟨v, w, m1, m2, e1, e2, e3⟩ := apart_o R a1
    rw [j1, Option.bind_some, e1, Option.bind_some, Option.bind_some, e2, Option.bind_some]
    exact ⟨m1, m2, rfl, e3⟩
  refine St_if ?_ ?_
  · obtain ⟨v, w, m1, m2, e1, e2, e3⟩ := Sm_Df (marked_o R a1)
    rw [j1, Option.bind_some, e1, Option.bind_some, Option.bind_some, e2, Option.bind_some]
    exact ⟨m1, m2, rfl, e3⟩
  refine St_if ?_ ?_
  · obtain ⟨v, w, m1, m2, e1, e2, e3⟩ := voice_o R a1 a2 a3
    rw [j1, Option.bind_some, j2, Option.bind_some, j3, Option.bind_some, e1, Option.bind_some, Option.bind_some, Option.bind_some, Option.bind_some, e2, Option.bind_some]
    exact ⟨m1, m2, rfl, e3⟩
  refine St_if ?_ ?_
  · obtain ⟨v, w, m1, m2, e1, e2, e3⟩ := body_o R a1
    rw [j1, Option.bind_some, e1, Option.bind_some, Option.bind_some, e2, Option.bind_some]
    exact ⟨m1, m2, rfl, e3⟩
  refine St_if ?_ ?_
  · obtain ⟨v, w, m1, m2, e1, e2, e3⟩ := Sm_Df (sheet_o R a1 a2 a3)
    rw [j1, Option.bind_some, j2, Option.bind_some, j3, Option.bind_some, e1, Option.bind_some, Option.bind_some, Option.bind_some, Option.bind_some, e2, Option.bind_some]
    exact ⟨m1, m2, rfl, e3⟩
  refine St_if ?_ ?_
  · obtain ⟨v, w, m1, m2, e1, e2, e3⟩ := Sm_Df (put_o R a1 a2 a3)
    rw [j1, Option.bind_some, j2, Option.bind_some, j3, Option.bind_some, e1, Option.bind_some, Option.bind_some, Option.bind_some, Option.bind_some, e2, Option.bind_some]
    exact ⟨m1, m2, rfl, e3⟩
  refine St_if ?_ ?_
  · obtain ⟨v, w, m1, m2, e1, e2, e3⟩ := Sm_Df (move_o R a1 a2 a3 a4 a5)
    rw [j1, Option.bind_some, j2, Option.bind_some, j3, Option.bind_some, j4, Option.bind_some, j5, Option.bind_some, e1, Option.bind_some, Option.bind_some, Option.bind_some, Option.bind_some, Option.bind_some, Option.bind_some, e2, Option.bind_some]
    exact ⟨m1, m2, rfl, e3⟩
  refine St_if ?_ ?_
  · obtain ⟨v, w, m1, m2, e1, e2, e3⟩ := Sm_Df (gases_o R a1)
    rw [j1, Option.bind_some, e1, Option.bind_some, Option.bind_some, e2, Option.bind_some]
    exact ⟨m1, m2, rfl, e3⟩
  refine St_if ?_ ?_
  · obtain ⟨v, w, m1, m2, e1, e2, e3⟩ := Sm_Df (image_o R )
    rw [e1, Option.bind_some, e2, Option.bind_some]
    exact ⟨m1, m2, rfl, e3⟩
  refine St_if ?_ ?_
  · obtain ⟨v, w, m1, m2, e1, e2, e3⟩ := Sm_Df (restore_o R )
    rw [e1, Option.bind_some, e2, Option.bind_some]
    exact ⟨m1, m2, rfl, e3⟩
  refine St_if ?_ ?_
  · obtain ⟨v, w, m1, m2, e1, e2, e3⟩ := Sm_Df (tell_o R a1)
    rw [j1, Option.bind_some, e1, Option.bind_some, Option.bind_some, e2, Option.bind_some]
    exact ⟨m1, m2, rfl, e3⟩
  refine St_if ?_ ?_
  · obtain ⟨v, m1, m2, e1, e2, e3⟩ := check_o R a1
    rw [j1, Option.bind_some, e1, Option.bind_some, Option.bind_some, e2, Option.bind_some]
    dsimp only
    rw [if_pos rfl]
    exact ⟨m1, m2, rfl, e3⟩
  refine St_if ?_ ?_
  · obtain ⟨v, w, m1, m2, e1, e2, e3⟩ := count_o R a1
    rw [j1, Option.bind_some, e1, Option.bind_some, Option.bind_some, e2, Option.bind_some]
    exact ⟨m1, m2, rfl, e3⟩
  refine St_if ?_ ?_
  · obtain ⟨v, w, m1, m2, e1, e2, e3⟩ := told_o R a1
    rw [j1, Option.bind_some, e1, Option.bind_some, Option.bind_some, e2, Option.bind_some]
    exact ⟨m1, m2, rfl, e3⟩
  exact ⟨mc, mr, rfl, R⟩
