/-! BOTH READERS: ONE VALUE -/
theorem nots_f {e : Int32 → Mem → Option Mem} {a b : Nat} (m : Mem) (h : a ≤ b) (hb : b < 1000) : lp (lX2_single_146 e (o32 b)) fu (o32 a, m) = NT (b - a) m := nots_c b hb (b - a) a m fu (by omega) (lt_fu (by omega))
theorem NT_s {n : Nat} {m m' : Mem} (h : fX2_note (fX5_ofSign 33) m = some m') : NT (n + 1) m = NT n m' := by
  show (fX2_note (fX5_ofSign 33) m).bind (NT n) = _
  rw [h]
  rfl
theorem open_g {sz o p : Nat} {m0 mr0 m mr : Mem} {L : List Nat} (h : GD sz m0 mr0 o p L m mr) (o' : Nat) : GD sz m0 mr0 o' p L m (mput mr 137 8 (o32 o')) := by
  obtain ⟨⟨f1, f2⟩, h1, h2, h3, h4, h5, h6, h7, h8, h9, h10⟩ := h
  refine ⟨⟨f1, fun c j a b => by rw [mput_get, if_neg (by omega)]; exact f2 c j a b⟩, h1, h2, ?_, h4, ?_, by rw [mput_at], h7, h8, ?_, fun i hi => ⟨(h10 i hi).1, ?_⟩⟩
  · rw [mput_get, if_neg (by omega)]; exact h3
  · rw [mput_get, if_neg (by omega)]; exact h5
  · rw [mput_get, if_neg (by omega)]; exact h9
  · rw [mput_get, if_neg (by omega)]; exact (h10 i hi).2
theorem open_b {sz : Nat} {m0 mr0 m mr : Mem} (h : BD sz m0 mr0 m mr) (x : Int32) : BD sz m0 mr0 m (mput mr 137 8 x) := by
  obtain ⟨⟨f1, f2⟩, ⟨p, p1, p2, p3⟩, h1, h2, n⟩ := h
  exact ⟨⟨f1, fun c j a b => by rw [mput_get, if_neg (by omega)]; exact f2 c j a b⟩, ⟨p, p1, p2, by rw [mput_get, if_neg (by omega)]; exact p3⟩, h1, by rw [mput_get, if_neg (by omega)]; exact h2, n⟩
theorem wrong_g {sz o p : Nat} {m0 mr0 m mr : Mem} {L : List Nat} (h : GD sz m0 mr0 o p L m mr) (hs : sz ≤ 60) : BD sz m0 mr0 (mput m 118 6 1) (mput mr 137 10 1) := by
  obtain ⟨⟨f1, f2⟩, h1, h2, h3, h4, h5, h6, h7, h8, h9, h10⟩ := h
  exact ⟨⟨fun c j a b => by rw [mput_get, if_neg (by omega)]; exact f1 c j a b, fun c j a b => by rw [mput_get, if_neg (by omega)]; exact f2 c j a b⟩, ⟨p, h1, by rw [mput_get, if_neg (by omega)]; exact h2, by rw [mput_get, if_neg (by omega)]; exact h3⟩, by rw [mput_at], by rw [mput_at], L.length, by omega, by rw [mput_get, if_neg (by omega)]; exact h8⟩
theorem wrong_b {sz : Nat} {m0 mr0 m mr : Mem} (h : BD sz m0 mr0 m mr) : mput m 118 6 1 = m ∧ mput mr 137 10 1 = mr := ⟨mput_self h.2.2.1, mput_self h.2.2.2.1⟩
theorem codes_p {m : Mem} (y v : Int32) (h : m 137 10 = 0) (h7 : ∀ q, fX9_codes y m = some q → q 137 7 + 1 = v) : (fX9_codes y m).bind (fun q => some (mput q 137 7 (q 137 7 + 1))) = fX9_codes y (mput m 137 7 v) := by
  have a : (mput m 137 7 v) 137 10 = m 137 10 := by rw [mput_get, if_neg (by omega)]
  have b : (mput m 137 7 v) 137 12 = m 137 12 := by rw [mput_get, if_neg (by omega)]
  unfold fX9_codes at *
  rw [a, b, if_pos h, if_pos h] at *
  by_cases c : inb (m 137 12) 60
  · rw [if_pos c] at h7 ⊢
    rw [if_pos c, Option.bind_some]
    rw [h7 _ rfl]
    congr 1
    rw [mput_c m _ _ (show 137 ≠ 144 by omega), mput_c (mput m 137 7 v) _ _ (show 137 ≠ 144 by omega), b]
    funext x y
    simp only [mput_get]
    split <;> split <;> (try rfl) <;> (try omega)
    all_goals (split <;> (try rfl) <;> (try omega))
    all_goals (split <;> (try rfl) <;> (try omega))
  · rw [if_neg c, if_neg c]
    rfl
theorem close_R {u sz o p : Nat} {B : Nat → Nat} {m0 mr0 m mr : Mem} {L : List Nat} {g : Mem → Option Mem} (X : CX u sz B m0 mr0) (h : GD sz m0 mr0 (o + 1) p L m mr) (ho : o < 100) : ∃ m' mr', fX2_close m = some m' ∧ ((fX9_takes 41 mr).bind fun q6 => if q6.1 = 0 then bX9_one_100 g 1 q6.2 else bX9_one_100 g 0 q6.2) = some mr' ∧ (GD sz m0 mr0 o (p + 1) L m' mr' ∨ BD sz m0 mr0 m' mr') := by
  have os : ∀ M : Mem, M 137 8 = o32 (o + 1) → mput M 137 8 (M 137 8 - 1) = mput M 137 8 (o32 o) := fun M e => by
    rw [e, show o32 (o + 1) - 1 = o32 (o + 1 - 1) from o_sub (b := 1) (by omega) (by omega), Nat.add_sub_cancel]
  have t1 := nI_g (n := 0) X h 41
  have t2 := tk_g X h 41
  unfold fX2_close
  rw [t1, t2, Option.bind_some, Option.bind_some]
  by_cases c : bt sz B p = 41
  · have ps : p < sz := ((bt_255 (n := 41) X (by omega)).mp c).1
    have ad := adv_g h ps
    rw [if_pos c, if_pos c, if_neg one0, if_neg one0]
    unfold bX9_one_100 bX9_one_103
    have w : mput (mput mr 137 7 (o32 (p + 1))) 137 10 0 = mput mr 137 7 (o32 (p + 1)) := mput_self ad.2.2.2.2.2.1
    dsimp only
    rw [if_pos (.inl rfl), w, os _ ad.2.2.2.2.2.2.1]
    exact ⟨_, _, rfl, rfl, .inl (open_g ad o)⟩
  · rw [if_neg c, if_neg c, if_pos rfl, if_pos rfl]
    unfold bX9_one_100 bX9_one_103
    dsimp only
    rw [if_pos (.inr rfl)]
    exact ⟨_, _, rfl, rfl, .inr (open_b (wrong_g h X.2.1) _)⟩
theorem close_B {sz : Nat} {m0 mr0 m mr : Mem} {g : Mem → Option Mem} (h : BD sz m0 mr0 m mr) : ∃ m' mr', fX2_close m = some m' ∧ ((fX9_takes 41 mr).bind fun q6 => if q6.1 = 0 then bX9_one_100 g 1 q6.2 else bX9_one_100 g 0 q6.2) = some mr' ∧ BD sz m0 mr0 m' mr' := by
  unfold fX2_close
  rw [nI_b h (by decide), tk_b h (by decide), Option.bind_some, Option.bind_some, if_pos rfl, if_pos rfl, (wrong_b h).1]
  unfold bX9_one_100 bX9_one_103
  dsimp only
  rw [if_pos (.inr rfl), (wrong_b h).2]
  exact ⟨_, _, rfl, rfl, open_b h _⟩
theorem str_u {u : Nat} (h : u < 3) : strq (o32 (11 + u)).toNatClampNeg := by
  have : ∀ u, u < 3 → strq (o32 (11 + u)).toNatClampNeg := by decide
  exact this u h
theorem nm_sg : ∀ u, u < 3 → nmV u 33 = -1 ∧ nmV u 40 = -1 := by decide +kernel
