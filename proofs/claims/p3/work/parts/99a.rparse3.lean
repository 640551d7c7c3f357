/-! BOTH READERS: FROM SINGLE TO EITHER -/
theorem bm {E : Type} (a : Option Mem) (h : Mem → Option Mem) (k : Mem → E) : (a.bind fun q => (h q).bind fun r => some (k r)) = (a.bind h).map k := by
  cases a with
  | none => rfl
  | some q =>
    show ((h q).bind fun r => some (k r)) = (h q).map k
    cases h q <;> rfl
theorem sgn_tab : ∀ i, i < 11 → fX5_ofSign (jI2c (o32 (sg1 i))) = ctok (20000 + i) ∧ fX5_ofSign (o32 (sg1 i)) = ctok (20000 + i) := by decide +kernel
theorem bt_some {ops : List Nat} {sz p i : Nat} {B : Nat → Nat} (h : op1 ops sz B p = some i) : bt sz B p = o32 (sg1 i) := by
  obtain ⟨h1, h2, _⟩ := op1_some h
  unfold bt
  rw [if_pos h1, h2]
theorem sg_lt : ∀ i, i < 11 → sg1 i < 1000 := by decide
theorem bt_none {u sz p : Nat} {B : Nat → Nat} {m0 mr0 : Mem} {ops : List Nat} (X : CX u sz B m0 mr0) (h : op1 ops sz B p = none) (j : Nat) (hj : j ∈ ops) (j11 : j < 11) : ¬ bt sz B p = o32 (sg1 j) := fun z => by
  obtain ⟨z1, z2⟩ := (bt_255 X (sg_lt j j11)).mp z
  unfold op1 at h
  rw [if_pos z1] at h
  have := List.find?_eq_none.mp h j hj
  rw [z2] at this
  exact this (by simp)
theorem k60 {k : Nat} (h : k < 60) : ¬ (60 : Int32) ≤ o32 k := by
  rw [show (60 : Int32) = o32 60 from rfl, o_le (by omega) (by omega)]
  omega
noncomputable def pickP (mr : Mem) : Option (Int32 × Mem) := (fX9_takes 42 mr).bind fun q2 => (if q2.1 = 0 then (fX9_takes 47 q2.2).bind fun q3 => (if q3.1 = 0 then (fX9_takes 37 q3.2).bind fun q4 => (if q4.1 = 0 then some (0, q4.2) else some (20009, q4.2)) else some (20008, q3.2)) else some (20007, q2.2))
noncomputable def pickS (mr : Mem) : Option (Int32 × Mem) := (fX9_takes 43 mr).bind fun q2 => (if q2.1 = 0 then (fX9_takes 45 q2.2).bind fun q3 => (if q3.1 = 0 then some (0, q3.2) else some (20006, q3.2)) else some (20005, q2.2))
noncomputable def pickC (mr : Mem) : Option (Int32 × Mem) := (fX9_takes 60 mr).bind fun q2 => (if q2.1 = 0 then (fX9_takes 61 q2.2).bind fun q3 => (if q3.1 = 0 then (fX9_takes 62 q3.2).bind fun q4 => (if q4.1 = 0 then some (0, q4.2) else some (20004, q4.2)) else some (20003, q3.2)) else some (20002, q2.2))
theorem pickP_b {E : Type} (mr : Mem) (k : Int32 × Mem → Option E) : ((fX9_takes 42 mr).bind fun q2 => (if q2.1 = 0 then (fX9_takes 47 q2.2).bind fun q3 => (if q3.1 = 0 then (fX9_takes 37 q3.2).bind fun q4 => (if q4.1 = 0 then k (0, q4.2) else k (20009, q4.2)) else k (20008, q3.2)) else k (20007, q2.2))) = (pickP mr).bind k := by
  unfold pickP
  cases fX9_takes 42 mr with
  | none => rfl
  | some q2 =>
    rw [Option.bind_some, Option.bind_some]
    by_cases c : q2.1 = 0
    · rw [if_pos c, if_pos c]
      cases fX9_takes 47 q2.2 with
      | none => rfl
      | some q3 =>
        rw [Option.bind_some, Option.bind_some]
        by_cases c : q3.1 = 0
        · rw [if_pos c, if_pos c]
          cases fX9_takes 37 q3.2 with
          | none => rfl
          | some q4 =>
            rw [Option.bind_some, Option.bind_some]
            by_cases c : q4.1 = 0
            · rw [if_pos c, if_pos c]; rfl
            · rw [if_neg c, if_neg c]; rfl
        · rw [if_neg c, if_neg c]; rfl
    · rw [if_neg c, if_neg c]; rfl
theorem pickC_b {E : Type} (mr : Mem) (k : Int32 × Mem → Option E) : ((fX9_takes 60 mr).bind fun q2 => (if q2.1 = 0 then (fX9_takes 61 q2.2).bind fun q3 => (if q3.1 = 0 then (fX9_takes 62 q3.2).bind fun q4 => (if q4.1 = 0 then k (0, q4.2) else k (20004, q4.2)) else k (20003, q3.2)) else k (20002, q2.2))) = (pickC mr).bind k := by
  unfold pickC
  cases fX9_takes 60 mr with
  | none => rfl
  | some q2 =>
    rw [Option.bind_some, Option.bind_some]
    by_cases c : q2.1 = 0
    · rw [if_pos c, if_pos c]
      cases fX9_takes 61 q2.2 with
      | none => rfl
      | some q3 =>
        rw [Option.bind_some, Option.bind_some]
        by_cases c : q3.1 = 0
        · rw [if_pos c, if_pos c]
          cases fX9_takes 62 q3.2 with
          | none => rfl
          | some q4 =>
            rw [Option.bind_some, Option.bind_some]
            by_cases c : q4.1 = 0
            · rw [if_pos c, if_pos c]; rfl
            · rw [if_neg c, if_neg c]; rfl
        · rw [if_neg c, if_neg c]; rfl
    · rw [if_neg c, if_neg c]; rfl
theorem pickS_b {E : Type} (mr : Mem) (k : Int32 × Mem → Option E) : ((fX9_takes 43 mr).bind fun q2 => (if q2.1 = 0 then (fX9_takes 45 q2.2).bind fun q3 => (if q3.1 = 0 then k (0, q3.2) else k (20006, q3.2)) else k (20005, q2.2))) = (pickS mr).bind k := by
  unfold pickS
  cases fX9_takes 43 mr with
  | none => rfl
  | some q2 =>
    rw [Option.bind_some, Option.bind_some]
    by_cases c : q2.1 = 0
    · rw [if_pos c, if_pos c]
      cases fX9_takes 45 q2.2 with
      | none => rfl
      | some q3 =>
        rw [Option.bind_some, Option.bind_some]
        by_cases c : q3.1 = 0
        · rw [if_pos c, if_pos c]; rfl
        · rw [if_neg c, if_neg c]; rfl
    · rw [if_neg c, if_neg c]; rfl
theorem pickP_g {u sz o p : Nat} {B : Nat → Nat} {m0 mr0 m mr : Mem} {L : List Nat} (X : CX u sz B m0 mr0) (h : GD sz m0 mr0 o p L m mr) : (∀ i, op1 [7, 8, 9] sz B p = some i → pickP mr = some (o32 (20000 + i), mput mr 137 7 (o32 (p + 1)))) ∧ (op1 [7, 8, 9] sz B p = none → pickP mr = some (0, mr)) := by
  have t1 := tk_g X h 42
  have t2 := tk_g X h 47
  have t3 := tk_g X h 37
  unfold pickP
  refine ⟨fun i hi => ?_, fun hn => ?_⟩
  · have hb := bt_some hi
    have hm := (op1_some hi).2.2
    rw [hb] at t1 t2 t3
    simp only [List.mem_cons, List.mem_nil_iff, or_false] at hm
    rcases hm with rfl | rfl | rfl
    · rw [t1, if_pos (by decide)]; rfl
    · rw [t1, if_neg (by decide), Option.bind_some, if_pos rfl, t2, if_pos (by decide)]; rfl
    · rw [t1, if_neg (by decide), Option.bind_some, if_pos rfl, t2, if_neg (by decide), Option.bind_some, if_pos rfl, t3, if_pos (by decide)]; rfl
  · rw [t1, if_neg (show ¬ bt sz B p = 42 from bt_none X hn 7 (by simp) (by omega)), Option.bind_some, if_pos rfl, t2, if_neg (show ¬ bt sz B p = 47 from bt_none X hn 8 (by simp) (by omega)), Option.bind_some, if_pos rfl, t3, if_neg (show ¬ bt sz B p = 37 from bt_none X hn 9 (by simp) (by omega))]; rfl
theorem pickC_g {u sz o p : Nat} {B : Nat → Nat} {m0 mr0 m mr : Mem} {L : List Nat} (X : CX u sz B m0 mr0) (h : GD sz m0 mr0 o p L m mr) : (∀ i, op1 [2, 3, 4] sz B p = some i → pickC mr = some (o32 (20000 + i), mput mr 137 7 (o32 (p + 1)))) ∧ (op1 [2, 3, 4] sz B p = none → pickC mr = some (0, mr)) := by
  have t1 := tk_g X h 60
  have t2 := tk_g X h 61
  have t3 := tk_g X h 62
  unfold pickC
  refine ⟨fun i hi => ?_, fun hn => ?_⟩
  · have hb := bt_some hi
    have hm := (op1_some hi).2.2
    rw [hb] at t1 t2 t3
    simp only [List.mem_cons, List.mem_nil_iff, or_false] at hm
    rcases hm with rfl | rfl | rfl
    · rw [t1, if_pos (by decide)]; rfl
    · rw [t1, if_neg (by decide), Option.bind_some, if_pos rfl, t2, if_pos (by decide)]; rfl
    · rw [t1, if_neg (by decide), Option.bind_some, if_pos rfl, t2, if_neg (by decide), Option.bind_some, if_pos rfl, t3, if_pos (by decide)]; rfl
  · rw [t1, if_neg (show ¬ bt sz B p = 60 from bt_none X hn 2 (by simp) (by omega)), Option.bind_some, if_pos rfl, t2, if_neg (show ¬ bt sz B p = 61 from bt_none X hn 3 (by simp) (by omega)), Option.bind_some, if_pos rfl, t3, if_neg (show ¬ bt sz B p = 62 from bt_none X hn 4 (by simp) (by omega))]; rfl
theorem pickS_g {u sz o p : Nat} {B : Nat → Nat} {m0 mr0 m mr : Mem} {L : List Nat} (X : CX u sz B m0 mr0) (h : GD sz m0 mr0 o p L m mr) : (∀ i, op1 [5, 6] sz B p = some i → pickS mr = some (o32 (20000 + i), mput mr 137 7 (o32 (p + 1)))) ∧ (op1 [5, 6] sz B p = none → pickS mr = some (0, mr)) := by
  have t1 := tk_g X h 43
  have t2 := tk_g X h 45
  unfold pickS
  refine ⟨fun i hi => ?_, fun hn => ?_⟩
  · have hb := bt_some hi
    have hm := (op1_some hi).2.2
    rw [hb] at t1 t2
    simp only [List.mem_cons, List.mem_nil_iff, or_false] at hm
    rcases hm with rfl | rfl
    · rw [t1, if_pos (by decide)]; rfl
    · rw [t1, if_neg (by decide), Option.bind_some, if_pos rfl, t2, if_pos (by decide)]; rfl
  · rw [t1, if_neg (show ¬ bt sz B p = 43 from bt_none X hn 5 (by simp) (by omega)), Option.bind_some, if_pos rfl, t2, if_neg (show ¬ bt sz B p = 45 from bt_none X hn 6 (by simp) (by omega))]; rfl
theorem product_S {u sz o : Nat} {B : Nat → Nat} {m0 mr0 : Mem} {e : Int32 → Mem → Option Mem} {g : Mem → Option Mem} (X : CX u sz B m0 mr0) (hf : SPEC sz m0 mr0 o (e (o32 o)) g) : SPEC sz m0 mr0 o (fX2_product e (o32 o)) (fX9_product g) := by
  have eM : fX9_product g = fun mr => (g mr).bind fun q => (pickP q).bind fun s => lp (lX9_product_51 g) fu s := by
    funext mr
    unfold fX9_product
    congr 1
    funext q
    exact pickP_b q (fun s => lp (lX9_product_51 g) fu s)
  rw [eM]
  refine levA (bC := lX2_product_7 e (o32 o)) (bM := lX9_product_51 g) (pick := pickP) (ops := [7, 8, 9]) X hf (fun i hi => by simp at hi; omega) (fun p L m mr k i h hk hi => ?_) (fun p L m mr k h hk hn => ?_) (fun m mr k h hk => ?_) (fun i mr hi => ?_) (fun mr => rfl) (fun p L m mr i h hi => (pickP_g X h).1 i hi) (fun p L m mr h hn => (pickP_g X h).2 hn) (fun m mr h => ?_)
  · have hb := bt_some hi
    have hm := (op1_some hi).2.2
    have t := nI_g (n := 0) X h
    rw [hb] at t
    have fin : bX2_product_40 e (o32 o) (o32 k) m = ((e (o32 o) (mput m 118 0 (m 118 0 + 1))).bind (fX2_note (ctok (20000 + i)))).map (fun q => .inl (o32 (k + 1), q)) := by
      unfold bX2_product_40
      rw [(nx_g X h).1, Option.bind_some, hb, (sgn_tab i (by simp at hm; omega)).1, o_s]
      exact bm _ _ _
    unfold lX2_product_7
    dsimp only
    simp only [List.mem_cons, List.mem_nil_iff, or_false] at hm
    rw [if_neg (k60 hk), t, t, t]
    rcases hm with rfl | rfl | rfl
    · rw [if_pos (show o32 (sg1 7) = 42 by decide), Option.bind_some, if_neg one0]; exact fin
    · rw [if_neg (show ¬ o32 (sg1 8) = 42 by decide), Option.bind_some, if_pos rfl, if_pos (show o32 (sg1 8) = 47 by decide), Option.bind_some, if_neg one0]; exact fin
    · rw [if_neg (show ¬ o32 (sg1 9) = 42 by decide), Option.bind_some, if_pos rfl, if_neg (show ¬ o32 (sg1 9) = 47 by decide), Option.bind_some, if_pos rfl, if_pos (show o32 (sg1 9) = 37 by decide), Option.bind_some, if_neg one0]; exact fin
  · unfold lX2_product_7
    dsimp only
    by_cases c : k = 60
    · rw [if_pos (by rw [c]; decide)]
    · have t := nI_g (n := 0) X h
      rw [if_neg (k60 (by omega)), t, t, t, if_neg (show ¬ bt sz B p = 42 from bt_none X hn 7 (by simp) (by omega)), Option.bind_some, if_pos rfl, if_neg (show ¬ bt sz B p = 47 from bt_none X hn 8 (by simp) (by omega)), Option.bind_some, if_pos rfl, if_neg (show ¬ bt sz B p = 37 from bt_none X hn 9 (by simp) (by omega)), Option.bind_some, if_pos rfl]
  · unfold lX2_product_7
    dsimp only
    by_cases c : k = 60
    · rw [if_pos (by rw [c]; decide)]
    · rw [if_neg (k60 (by omega)), nI_b h (by decide), nI_b h (by decide), nI_b h (by decide)]
      rfl
  · unfold lX9_product_51
    dsimp only
    rw [if_neg (by rw [show (0 : Int32) = o32 0 from rfl, o_le (by omega) (by omega)]; omega)]
    cases g mr with
    | none => rfl
    | some q5 =>
      rw [Option.bind_some, Option.bind_some]
      cases fX9_codes (o32 (20000 + i)) q5 with
      | none => rfl
      | some q6 =>
        rw [Option.bind_some, Option.bind_some]
        exact (pickP_b q6 (fun s => (some (.inl s) : Option ((Int32 × Mem) ⊕ Mem)))).trans (by cases pickP q6 <;> rfl)
  · unfold pickP
    rw [tk_b h (by decide), Option.bind_some, if_pos rfl, tk_b h (by decide), Option.bind_some, if_pos rfl, tk_b h (by decide)]
    rfl
theorem sum_S {u sz o : Nat} {B : Nat → Nat} {m0 mr0 : Mem} {e : Int32 → Mem → Option Mem} {g : Mem → Option Mem} (X : CX u sz B m0 mr0) (hf : SPEC sz m0 mr0 o (e (o32 o)) g) : SPEC sz m0 mr0 o (fX2_sum e (o32 o)) (fX9_sum g) := by
  have hf := product_S X hf
  have eM : fX9_sum g = fun mr => (fX9_product g mr).bind fun q => (pickS q).bind fun s => lp (lX9_sum_36 g) fu s := by
    funext mr
    unfold fX9_sum
    congr 1
    funext q
    exact pickS_b q (fun s => lp (lX9_sum_36 g) fu s)
  rw [eM]
  refine levA (bC := lX2_sum_7 e (o32 o)) (bM := lX9_sum_36 g) (pick := pickS) (ops := [5, 6]) X hf (fun i hi => by simp at hi; omega) (fun p L m mr k i h hk hi => ?_) (fun p L m mr k h hk hn => ?_) (fun m mr k h hk => ?_) (fun i mr hi => ?_) (fun mr => rfl) (fun p L m mr i h hi => (pickS_g X h).1 i hi) (fun p L m mr h hn => (pickS_g X h).2 hn) (fun m mr h => ?_)
  · have hb := bt_some hi
    have hm := (op1_some hi).2.2
    have t := nI_g (n := 0) X h
    rw [hb] at t
    have fin : bX2_sum_31 e (o32 o) (o32 k) m = ((fX2_product e (o32 o) (mput m 118 0 (m 118 0 + 1))).bind (fX2_note (ctok (20000 + i)))).map (fun q => .inl (o32 (k + 1), q)) := by
      unfold bX2_sum_31
      rw [(nx_g X h).1, Option.bind_some, hb, (sgn_tab i (by simp at hm; omega)).1, o_s]
      exact bm _ _ _
    unfold lX2_sum_7
    dsimp only
    simp only [List.mem_cons, List.mem_nil_iff, or_false] at hm
    rw [if_neg (k60 hk), t, t]
    rcases hm with rfl | rfl
    · rw [if_pos (show o32 (sg1 5) = 43 by decide), Option.bind_some, if_neg one0]; exact fin
    · rw [if_neg (show ¬ o32 (sg1 6) = 43 by decide), Option.bind_some, if_pos rfl, if_pos (show o32 (sg1 6) = 45 by decide), Option.bind_some, if_neg one0]; exact fin
  · unfold lX2_sum_7
    dsimp only
    by_cases c : k = 60
    · rw [if_pos (by rw [c]; decide)]
    · have t := nI_g (n := 0) X h
      rw [if_neg (k60 (by omega)), t, t, if_neg (show ¬ bt sz B p = 43 from bt_none X hn 5 (by simp) (by omega)), Option.bind_some, if_pos rfl, if_neg (show ¬ bt sz B p = 45 from bt_none X hn 6 (by simp) (by omega)), Option.bind_some, if_pos rfl]
  · unfold lX2_sum_7
    dsimp only
    by_cases c : k = 60
    · rw [if_pos (by rw [c]; decide)]
    · rw [if_neg (k60 (by omega)), nI_b h (by decide), nI_b h (by decide)]
      rfl
  · unfold lX9_sum_36
    dsimp only
    rw [if_neg (by rw [show (0 : Int32) = o32 0 from rfl, o_le (by omega) (by omega)]; omega)]
    cases fX9_product g mr with
    | none => rfl
    | some q5 =>
      rw [Option.bind_some, Option.bind_some]
      cases fX9_codes (o32 (20000 + i)) q5 with
      | none => rfl
      | some q6 =>
        rw [Option.bind_some, Option.bind_some]
        exact (pickS_b q6 (fun s => (some (.inl s) : Option ((Int32 × Mem) ⊕ Mem)))).trans (by cases pickS q6 <;> rfl)
  · unfold pickS
    rw [tk_b h (by decide), Option.bind_some, if_pos rfl, tk_b h (by decide)]
    rfl
