/-! BOTH READERS: COMPARED, BOTH, EITHER -/
theorem bs (a : Option Mem) (h : Mem → Option Mem) : (a.bind fun q => (h q).bind fun r => some r) = a.bind h := by
  cases a with
  | none => rfl
  | some q =>
    show ((h q).bind fun r => some r) = h q
    cases h q <;> rfl
theorem compared_S {u sz o : Nat} {B : Nat → Nat} {m0 mr0 : Mem} {e : Int32 → Mem → Option Mem} {g : Mem → Option Mem} (X : CX u sz B m0 mr0) (hf : SPEC sz m0 mr0 o (e (o32 o)) g) : SPEC sz m0 mr0 o (fX2_compared e (o32 o)) (fX9_compared g) := by
  have hf := sum_S X hf
  have eM : fX9_compared g = fun mr => (fX9_sum g mr).bind fun q => (pickC q).bind fun s => bX9_compared_50 g s.1 s.2 := by
    funext mr
    unfold fX9_compared
    congr 1
    funext q
    exact pickC_b q (fun s => bX9_compared_50 g s.1 s.2)
  rw [eM]
  have bad : ∀ m mr, BD sz m0 mr0 m mr → ((fX2_nextIs 60 m).bind fun q2 => (if q2 = 0 then (fX2_nextIs 61 m).bind fun q3 => (if q3 = 0 then (fX2_nextIs 62 m).bind fun q4 => (if q4 = 0 then some m else bX2_compared_32 e (o32 o) m) else bX2_compared_32 e (o32 o) m) else bX2_compared_32 e (o32 o) m)) = some m ∧ ((pickC mr).bind fun s => bX9_compared_50 g s.1 s.2) = some mr := fun m mr h => by
    refine ⟨by rw [nI_b h (by decide), nI_b h (by decide), nI_b h (by decide)]; rfl, ?_⟩
    unfold pickC
    rw [tk_b h (by decide), Option.bind_some, if_pos rfl, tk_b h (by decide), Option.bind_some, if_pos rfl, tk_b h (by decide)]
    rfl
  refine ⟨fun p L m mr h => ?_, fun m mr h => ?_⟩
  · obtain ⟨m1, mr1, e1, e2, e3⟩ := hf.1 p L m mr h
    unfold fX2_compared
    dsimp only
    rw [e1, e2, Option.bind_some, Option.bind_some]
    rcases e3 with ⟨p1, S1, q1, q2, q3, q4⟩ | e3
    · have t := nI_g (n := 0) X q4
      cases hn : op1 [2, 3, 4] sz B p1 with
      | none =>
        rw [(pickC_g X q4).2 hn, t, t, t, if_neg (show ¬ bt sz B p1 = 60 from bt_none X hn 2 (by simp) (by omega)), Option.bind_some, if_pos rfl, if_neg (show ¬ bt sz B p1 = 61 from bt_none X hn 3 (by simp) (by omega)), Option.bind_some, if_pos rfl, if_neg (show ¬ bt sz B p1 = 62 from bt_none X hn 4 (by simp) (by omega)), Option.bind_some, if_pos rfl]
        exact ⟨m1, mr1, rfl, rfl, .inl ⟨p1, S1, q1, q2, q3, q4⟩⟩
      | some i =>
        obtain ⟨o1, o2, o3⟩ := op1_some hn
        have hb := bt_some hn
        have i5 : i < 10 := by simp at o3; omega
        obtain ⟨m', mr', s1, s2, s3⟩ := opstep X hf i5 q4 q3 q2 q1 o1
        have fin : bX2_compared_32 e (o32 o) m1 = some m' := by
          unfold bX2_compared_32
          rw [(nx_g X q4).1, Option.bind_some, hb, (sgn_tab i (by omega)).1]
          exact (bs _ _).trans s1
        have mdl : bX9_compared_50 g (o32 (20000 + i)) (mput mr1 137 7 (o32 (p1 + 1))) = some mr' := by
          unfold bX9_compared_50
          rw [if_neg (by rw [show (0 : Int32) = o32 0 from rfl, o_le (by omega) (by omega)]; omega)]
          exact (bs _ _).trans s2
        rw [(pickC_g X q4).1 i hn, Option.bind_some, mdl, t, t, t, hb, fin]
        have out : RES sz m0 mr0 o p L (some m') (some mr') := ⟨m', mr', rfl, rfl, by
          rcases s3 with ⟨p', S, r1, r2, r3, r4⟩ | s3
          · exact .inl ⟨p', S, by omega, r2, r3, r4⟩
          · exact .inr s3⟩
        simp only [List.mem_cons, List.mem_nil_iff, or_false] at o3
        rcases o3 with rfl | rfl | rfl
        · rw [if_pos (show o32 (sg1 2) = 60 by decide), Option.bind_some, if_neg one0]; exact out
        · rw [if_neg (show ¬ o32 (sg1 3) = 60 by decide), Option.bind_some, if_pos rfl, if_pos (show o32 (sg1 3) = 61 by decide), Option.bind_some, if_neg one0]; exact out
        · rw [if_neg (show ¬ o32 (sg1 4) = 60 by decide), Option.bind_some, if_pos rfl, if_neg (show ¬ o32 (sg1 4) = 61 by decide), Option.bind_some, if_pos rfl, if_pos (show o32 (sg1 4) = 62 by decide), Option.bind_some, if_neg one0]; exact out
    · obtain ⟨b1, b2⟩ := bad m1 mr1 e3
      rw [b1, b2]
      exact ⟨m1, mr1, rfl, rfl, .inr e3⟩
  · obtain ⟨m1, mr1, e1, e2, e3⟩ := hf.2 m mr h
    unfold fX2_compared
    dsimp only
    rw [e1, e2, Option.bind_some, Option.bind_some]
    obtain ⟨b1, b2⟩ := bad m1 mr1 e3
    rw [b1, b2]
    exact ⟨m1, mr1, rfl, rfl, e3⟩
theorem both_S {u sz o : Nat} {B : Nat → Nat} {m0 mr0 : Mem} {e : Int32 → Mem → Option Mem} {g : Mem → Option Mem} (X : CX u sz B m0 mr0) (hf : SPEC sz m0 mr0 o (e (o32 o)) g) : SPEC sz m0 mr0 o (fX2_both e (o32 o)) (fX9_both g) := by
  have hf := compared_S X hf
  refine levB (i := 1) (bC := lX2_both_7 e (o32 o)) (bM := lX9_both_4 g) X hf (by omega) (fun p L m mr k h hk hi => ?_) (fun p L m mr k h hk hn => ?_) (fun m mr k h hk => ?_) (fun p L m mr h hi => ?_) (fun p L m mr h hn => ?_) (fun m mr h => ?_)
  · have hb := bt_some hi
    have t := nI_g (n := 0) X h 38
    rw [hb, if_pos (show o32 (sg1 1) = 38 by decide)] at t
    unfold lX2_both_7
    dsimp only
    rw [if_neg (k60 hk), t, Option.bind_some, if_neg one0, show fX5_ofSign 38 = ctok (20000 + 1) from (sgn_tab 1 (by omega)).2, o_s]
    exact bm _ _ _
  · unfold lX2_both_7
    dsimp only
    by_cases c : k = 60
    · rw [if_pos (by rw [c]; decide)]
    · have t := nI_g (n := 0) X h 38
      rw [if_neg (k60 (by omega)), t, if_neg (show ¬ bt sz B p = 38 from bt_none X hn 1 (by simp) (by omega)), Option.bind_some, if_pos rfl]
  · unfold lX2_both_7
    dsimp only
    by_cases c : k = 60
    · rw [if_pos (by rw [c]; decide)]
    · rw [if_neg (k60 (by omega)), nI_b h (by decide)]
      rfl
  · have hb := bt_some hi
    have t := tk_g X h 38
    rw [hb, if_pos (show o32 (sg1 1) = 38 by decide)] at t
    unfold lX9_both_4
    rw [t, Option.bind_some, if_neg one0]
    exact bm _ _ _
  · have t := tk_g X h 38
    rw [if_neg (show ¬ bt sz B p = 38 from bt_none X hn 1 (by simp) (by omega))] at t
    unfold lX9_both_4
    rw [t, Option.bind_some, if_pos rfl]
  · unfold lX9_both_4
    rw [tk_b h (by decide), Option.bind_some, if_pos rfl]
theorem either_S {u sz o : Nat} {B : Nat → Nat} {m0 mr0 : Mem} {e : Int32 → Mem → Option Mem} {g : Mem → Option Mem} (X : CX u sz B m0 mr0) (hf : SPEC sz m0 mr0 o (e (o32 o)) g) : SPEC sz m0 mr0 o (fX2_either e (o32 o)) (fX9_either g) := by
  have hf := both_S X hf
  refine levB (i := 0) (bC := lX2_either_7 e (o32 o)) (bM := lX9_either_4 g) X hf (by omega) (fun p L m mr k h hk hi => ?_) (fun p L m mr k h hk hn => ?_) (fun m mr k h hk => ?_) (fun p L m mr h hi => ?_) (fun p L m mr h hn => ?_) (fun m mr h => ?_)
  · have hb := bt_some hi
    have t := nI_g (n := 0) X h 124
    rw [hb, if_pos (show o32 (sg1 0) = 124 by decide)] at t
    unfold lX2_either_7
    dsimp only
    rw [if_neg (k60 hk), t, Option.bind_some, if_neg one0, show fX5_ofSign 124 = ctok (20000 + 0) from (sgn_tab 0 (by omega)).2, o_s]
    exact bm _ _ _
  · unfold lX2_either_7
    dsimp only
    by_cases c : k = 60
    · rw [if_pos (by rw [c]; decide)]
    · have t := nI_g (n := 0) X h 124
      rw [if_neg (k60 (by omega)), t, if_neg (show ¬ bt sz B p = 124 from bt_none X hn 0 (by simp) (by omega)), Option.bind_some, if_pos rfl]
  · unfold lX2_either_7
    dsimp only
    by_cases c : k = 60
    · rw [if_pos (by rw [c]; decide)]
    · rw [if_neg (k60 (by omega)), nI_b h (by decide)]
      rfl
  · have hb := bt_some hi
    have t := tk_g X h 124
    rw [hb, if_pos (show o32 (sg1 0) = 124 by decide)] at t
    unfold lX9_either_4
    rw [t, Option.bind_some, if_neg one0]
    exact bm _ _ _
  · have t := tk_g X h 124
    rw [if_neg (show ¬ bt sz B p = 124 from bt_none X hn 0 (by simp) (by omega))] at t
    unfold lX9_either_4
    rw [t, Option.bind_some, if_pos rfl]
  · unfold lX9_either_4
    rw [tk_b h (by decide), Option.bind_some, if_pos rfl]
