/-! VOICE: BOTH ANSWER -/
theorem sub_ne {x y : Int32} (h : ¬ x = y) : ¬ x - y = 0 := fun z => h (by
  have := Int32.sub_add_cancel x y
  rw [z, Int32.zero_add] at this
  exact this.symm)
theorem of_m {m : Mem} {a j : Nat} (ha : a < 16) (hj : j < 50) : fX9_of (o32 a) (o32 j) m = some (m 138 (12 + 50 * a + j)) := by
  unfold fX9_of
  have e1 : (12 : Int32) + 50 * o32 a + o32 j = o32 (12 + 50 * a + j) := by
    rw [show (50 : Int32) * o32 a = o32 (50 * a) from o_mul 50 a, show (12 : Int32) + o32 (50 * a) = o32 (12 + 50 * a) from o_add 12 _, o_add]
  rw [e1, if_pos (o_inb (show 12 + 50 * a + j < 1082 by omega) (by omega)), o_tn (by omega)]
theorem id_in : ∀ i, i < 28 → i ∈ [0, 1, 2, 3, 4, 7, 8, 10, 13, 14, 19, 21, 22] ∨ i ∈ [5, 6, 9, 11, 12, 15, 16, 17, 18, 20, 23, 24, 25, 26, 27] := by decide +kernel
theorem body_s {a w : Nat} (ha : a < 16) (hw : w < 7) : ∀ n, BODY (nX9_body n) n a w := by
  intro n
  induction n with
  | zero =>
    intro k v x m _ _ ok
    cases (show false = true from ok)
  | succ n ih =>
    intro k v x m hk hv ok h1 h2 ht
    show AB m (fX9_body (nX9_body n) (o32 k) (o32 v) x m)
    have P1 : ∀ m1 : Mem, FB m m1 → m1 137 20 = o32 a := fun m1 f => (f.1 _ _ (by omega) (by omega)).trans h1
    have P2 : ∀ m1 : Mem, FB m m1 → m1 138 (12 + 50 * a + 1) = o32 w := fun m1 f => (f.1 _ _ (by omega) (by omega)).trans h2
    have F0 : ∀ m1 : Mem, FB m m1 → FB m1 m1 := fun m1 f => ⟨fun _ _ _ _ => rfl, f.2⟩
    have fr : ∀ m1 : Mem, FB m m1 → ∀ k v x, k < 7 → v < 4 → okm n w (rs v k) v = true → AB m1 (fX9_bodyFrom (nX9_body n) (o32 k) (o32 v) x m1) := fun m1 f k v x hk hv ok => from_s ih hv hk ok (P1 m1 f) (P2 m1 f) f.2
    have vo : ∀ m1 : Mem, FB m m1 → ∀ v x, v < 4 → okm n w (rs v w) v = true → AB m1 (fX9_voiced (nX9_body n) (o32 v) x m1) := fun m1 f v x hv ok => voiced_s ha ih hv hw ok (P1 m1 f) (P2 m1 f) f.2
    have e4 : (4 : Int32) * o32 k + o32 v = o32 (4 * k + v) := by
      rw [show (4 : Int32) * o32 k = o32 (4 * k) from o_mul 4 k, o_add]
    have oke : okm (n + 1) w k v = (match 4 * k + v with
    | 1 => okm n w (rs 0 w) 0
    | 2 => okm n w (rs 1 w) 1
    | 4 => okm n w (rs 0 0) 0
    | 7 => okm n w (rs 3 0) 3 && okm n w (rs 1 w) 1
    | 8 => okm n w (rs 0 1) 0
    | 10 => okm n w (rs 2 1) 2
    | 13 => okm n w (rs 1 0) 1
    | 14 => okm n w (rs 2 0) 2
    | 19 => okm n w (rs 3 0) 3 && okm n w (rs 0 w) 0
    | 21 => okm n w (rs 1 3) 1
    | 22 => okm n w (rs 2 3) 2 && okm n w (rs 1 3) 1
    | _ => true) := rfl
    rw [oke] at ok
    unfold fX9_body
    rw [h1, show fX9_of (o32 a) 4 m = _ from of_m (j := 4) ha (by omega), Option.bind_some, e4]
    generalize m 138 (12 + 50 * a + 4) = q1
    have i28 : 4 * k + v < 28 := by omega
    generalize 4 * k + v = i at ok i28
    rcases id_in i i28 with h | h
    · simp only [List.mem_cons, List.not_mem_nil, or_false] at h
      rcases h with h | h | h | h | h | h | h | h | h | h | h | h | h <;> subst h
      · exact AB_b (b := fun q2 => some (x + q2 137 20, q2)) ht (fun m1 f => ⟨_, _, rfl, F0 m1 f⟩)
      · exact AB_b (b := fun q4 => (fX9_voiced (nX9_body n) 0 x q4).bind fun q5 => some (q5.1 * 2, q5.2)) ht (fun m1 f => AB_1 (g := fun a _ => a * 2) (vo m1 f 0 x (by omega) ok) (F0 m1 f))
      · exact AB_b (b := fun q7 => (fX9_voiced (nX9_body n) 1 x q7).bind fun q8 => some (q8.1 - q1, q8.2)) ht (fun m1 f => AB_1 (g := fun a _ => a - q1) (vo m1 f 1 x (by omega) ok) (F0 m1 f))
      · refine AB_b (b := fun q10 => if q10 137 20 = q1 then bX9_body_189 (nX9_body n) x q1 1 q10 else bX9_body_189 (nX9_body n) x q1 0 q10) ht (fun m1 f => ?_)
        have fp : ∀ y, FB m1 (mput m1 137 21 y) := fun y => ⟨fun c j a b => by rw [mput_get, if_neg (by omega)], by
          obtain ⟨t, t1, t2⟩ := f.2
          exact ⟨t, t1, by rw [mput_get, if_neg (by omega)]; exact t2⟩⟩
        by_cases c : m1 137 20 = q1
        · show AB m1 (if m1 137 20 = q1 then _ else _)
          rw [if_pos c]
          unfold bX9_body_189
          rw [if_pos (.inr rfl), mput_at, if_neg one0]
          exact ⟨_, _, rfl, fp 1⟩
        · show AB m1 (if m1 137 20 = q1 then _ else _)
          rw [if_neg c]
          unfold bX9_body_189
          rw [if_pos (.inl rfl), mput_at, if_pos rfl, mput_j _ _ _ _ (show 20 ≠ 21 by omega), if_pos (sub_ne c)]
          exact ⟨_, _, rfl, fp 0⟩
      · exact AB_b (b := fun q14 => (fX9_bodyFrom (nX9_body n) 0 0 x q14).bind fun q15 => some (q15.1 - 4, q15.2)) ht (fun m1 f => AB_1 (g := fun a _ => a - 4) (fr m1 f 0 0 x (by omega) (by omega) ok) (F0 m1 f))
      · have ok := Bool.and_eq_true_iff.mp ok
        exact AB_b (b := fun q17 => (fX9_bodyFrom (nX9_body n) 0 3 x q17).bind fun q18 => (fX9_voiced (nX9_body n) 1 1 q18.2).bind fun q19 => some (q18.1 + q19.1, q19.2)) ht (fun m1 f => AB_2 (g := fun a b => a + b) (b := fun M => fX9_voiced (nX9_body n) 1 1 M) (fr m1 f 0 3 x (by omega) (by omega) ok.1) (F0 m1 f) (fun m2 f2 => vo m2 (FB_tr f f2) 1 1 (by omega) ok.2))
      · exact AB_b (b := fun q21 => (fX9_bodyFrom (nX9_body n) 1 0 x q21).bind fun q22 => some (q22.1 * 3, q22.2)) ht (fun m1 f => AB_1 (g := fun a _ => a * 3) (fr m1 f 1 0 x (by omega) (by omega) ok) (F0 m1 f))
      · exact AB_b (b := fun q24 => (fX9_bodyFrom (nX9_body n) 1 2 x q24).bind fun q25 => some (q25.1 ^^^ (q25.2 137 20), q25.2)) ht (fun m1 f => AB_1 (g := fun a M => a ^^^ (M 137 20)) (fr m1 f 1 2 x (by omega) (by omega) ok) (F0 m1 f))
      · exact AB_b (b := fun q27 => (fX9_bodyFrom (nX9_body n) 0 1 x q27).bind fun q28 => some (-q28.1, q28.2)) ht (fun m1 f => AB_1 (g := fun a _ => -a) (fr m1 f 0 1 x (by omega) (by omega) ok) (F0 m1 f))
      · exact AB_b (b := fun q30 => (fX9_bodyFrom (nX9_body n) 0 2 (x / 2) q30).bind fun q31 => some (q31.1, q31.2)) ht (fun m1 f => AB_1 (g := fun a _ => a) (fr m1 f 0 2 (x / 2) (by omega) (by omega) ok) (F0 m1 f))
      · have ok := Bool.and_eq_true_iff.mp ok
        exact AB_b (b := fun q33 => (fX9_bodyFrom (nX9_body n) 0 3 x q33).bind fun q34 => (fX9_voiced (nX9_body n) 0 2 q34.2).bind fun q35 => some (q34.1 - q35.1, q35.2)) ht (fun m1 f => AB_2 (g := fun a b => a - b) (b := fun M => fX9_voiced (nX9_body n) 0 2 M) (fr m1 f 0 3 x (by omega) (by omega) ok.1) (F0 m1 f) (fun m2 f2 => vo m2 (FB_tr f f2) 0 2 (by omega) ok.2))
      · exact AB_b (b := fun q37 => (fX9_bodyFrom (nX9_body n) 3 1 (x + 1) q37).bind fun q38 => some (q38.1, q38.2)) ht (fun m1 f => AB_1 (g := fun a _ => a) (fr m1 f 3 1 (x + 1) (by omega) (by omega) ok) (F0 m1 f))
      · have ok := Bool.and_eq_true_iff.mp ok
        exact AB_b (b := fun q40 => (fX9_bodyFrom (nX9_body n) 3 2 x q40).bind fun q41 => (fX9_bodyFrom (nX9_body n) 3 1 0 q41.2).bind fun q42 => some (q41.1 + q42.1, q42.2)) ht (fun m1 f => AB_2 (g := fun a b => a + b) (b := fun M => fX9_bodyFrom (nX9_body n) 3 1 0 M) (fr m1 f 3 2 x (by omega) (by omega) ok.1) (F0 m1 f) (fun m2 f2 => fr m2 (FB_tr f f2) 3 1 0 (by omega) (by omega) ok.2))
    · have D : AB m ((fX9_began 70 m).bind fun q44 => some (7, q44)) := AB_b (b := fun q44 => some (7, q44)) ht (fun m1 f => ⟨_, _, rfl, F0 m1 f⟩)
      simp only [List.mem_cons, List.not_mem_nil, or_false] at h
      rcases h with h | h | h | h | h | h | h | h | h | h | h | h | h | h | h <;> subst h <;> exact D
