section
/-! THE WHOLE RELATION; ACTS ON WALLS -/
noncomputable def SHT (mc mr : Mem) : Prop := ∀ s, s < 4 → (∃ t, (t = 0 ∨ t = 8 ∨ t = 16 ∨ t = 32) ∧ mc 129 s = o32 t ∧ mr 151 s = o32 t) ∧ (∃ n, n ≤ 24 ∧ mc 130 s = o32 n ∧ mr 152 s = o32 n) ∧ ∀ i, i < 24 → mc (132 + s) i = mr 153 (24 * s + i)
noncomputable def RLx (mc mr : Mem) : Prop := WR 0 mc (mr 138) ∧ mc 0 8 = mr 137 3 ∧ (¬ mc 0 8 = 0 → WR 1 mc (mr 139)) ∧ SHT mc mr ∧ (∃ n, n ≤ 30 ∧ mc 125 1 = o32 n) ∧ ∃ n, n ≤ 30 ∧ mr 137 19 = o32 n
noncomputable def CK (m m' : Mem) : Prop := ∀ c j, (40 ≤ c ∧ c ≤ 78) ∨ (c = 0 ∧ j = 8) ∨ (129 ≤ c ∧ c ≤ 135) ∨ (c = 125 ∧ j = 1) → m' c j = m c j
noncomputable def MK (m m' : Mem) : Prop := ∀ c j, c = 139 ∨ (c = 137 ∧ (j = 3 ∨ j = 19)) ∨ c = 151 ∨ c = 152 ∨ c = 153 → m' c j = m c j
theorem CK_rf {m : Mem} : CK m m := fun _ _ _ => rfl
theorem MK_rf {m : Mem} : MK m m := fun _ _ _ => rfl
theorem CK_CF {m m' : Mem} (h : CF 0 m m') : CK m m' := fun c j hc => h c j (fun o h1 h2 => by unfold cw; omega)
theorem CK_CF2 {m m' : Mem} (h : CF 2 m m') : CK m m' := fun c j hc => h c j (fun o h1 h2 => by unfold cw; omega)
theorem MK_MF {m m' : Mem} (h : MF m m') : MK m m' := fun c j hc => h c j (by omega) (by omega) (by omega) (by omega) (by omega)
theorem CK_tr {m m1 m2 : Mem} (h1 : CK m m1) (h2 : CK m1 m2) : CK m m2 := fun c j h => (h2 c j h).trans (h1 c j h)
theorem MK_tr {m m1 m2 : Mem} (h1 : MK m m1) (h2 : MK m1 m2) : MK m m2 := fun c j h => (h2 c j h).trans (h1 c j h)
theorem CK_put {m : Mem} {c j : Nat} {v : Int32} (h : ¬ ((40 ≤ c ∧ c ≤ 78) ∨ (c = 0 ∧ j = 8) ∨ (129 ≤ c ∧ c ≤ 135) ∨ (c = 125 ∧ j = 1))) : CK m (mput m c j v) := fun c' j' hc => by rw [mput_get, if_neg (by omega)]
theorem MK_put {m : Mem} {c j : Nat} {v : Int32} (h : ¬ (c = 139 ∨ (c = 137 ∧ (j = 3 ∨ j = 19)) ∨ c = 151 ∨ c = 152 ∨ c = 153)) : MK m (mput m c j v) := fun c' j' hc => by rw [mput_get, if_neg (by omega)]
theorem SHT_k {mc mc' mr mr' : Mem} (h : SHT mc mr) (c : CK mc mc') (k : MK mr mr') : SHT mc' mr' := fun s hs => by
  obtain ⟨h1, h2, h3⟩ := h s hs
  rw [c 129 s (by omega), c 130 s (by omega), k 151 s (by omega), k 152 s (by omega)]
  exact ⟨h1, h2, fun i hi => by rw [c _ i (by omega), k 153 _ (by omega)]; exact h3 i hi⟩
theorem W1_k {mc mc' mr mr' : Mem} (h : WR 1 mc (mr 139)) (c : CK mc mc') (k : MK mr mr') : WR 1 mc' (mr' 139) := by
  obtain ⟨r, al, f, q, h⟩ := h
  refine ⟨r, al, f, q, WS_same h (fun z j hz => ?_) (fun j => k 139 j (by omega))⟩
  obtain ⟨o, e, ho⟩ := hz
  refine c z j (.inl ?_)
  rw [e]
  unfold cw
  omega
theorem RL_k {mc mc' mr mr' : Mem} (h : RLx mc mr) (w : WR 0 mc' (mr' 138)) (c : CK mc mc') (k : MK mr mr') : RLx mc' mr' := by
  obtain ⟨h1, h2, h3, h4, h5, h6⟩ := h
  have e8 := c 0 8 (by omega)
  refine ⟨w, ?_, fun hz => ?_, SHT_k h4 c k, ?_, ?_⟩
  · rw [e8, k 137 3 (by omega)]; exact h2
  · rw [e8] at hz
    exact W1_k (h3 hz) c k
  · rw [c 125 1 (by omega)]; exact h5
  · rw [k 137 19 (by omega)]; exact h6
theorem RL_RW {mc mc' mr mr' : Mem} (h : RLx mc mr) (w : RW 0 mc mr mc' mr') : RLx mc' mr' := RL_k h w.1 (CK_CF w.2.1) (MK_MF w.2.2.1)
/-- both answer alike, and the relation holds on -/
noncomputable def Sm (a b : Option (Int32 × Mem)) : Prop := ∃ v mc mr, a = some (v, mc) ∧ b = some (v, mr) ∧ RLx mc mr
/-- both answer -/
noncomputable def Df (a b : Option (Int32 × Mem)) : Prop := ∃ v v' mc mr, a = some (v, mc) ∧ b = some (v', mr) ∧ RLx mc mr
theorem Sm_Df {a b : Option (Int32 × Mem)} (h : Sm a b) : Df a b := by
  obtain ⟨v, mc, mr, h1, h2, h3⟩ := h
  exact ⟨v, v, mc, mr, h1, h2, h3⟩
theorem WR_off {k : Nat} {m m' : Mem} {w : Nat → Int32} (h : WR k m w) (e : ∀ c j, rc k c → m' c j = m c j) : WR k m' w := by
  obtain ⟨r, al, f, q, h⟩ := h
  exact ⟨r, al, f, q, WS_same h e (fun _ => rfl)⟩
theorem rc_le {k c : Nat} (h : rc k c) : c ≤ 39 + 39 * k := by
  obtain ⟨o, e, h⟩ := h
  rw [e]
  unfold cw
  omega
theorem RL_e {mc mr : Mem} {i j : Nat} {x y : Int32} (h : RLx mc mr) : RLx (mput mc 136 i x) (mput mr 141 j y) := by
  refine RL_k h ?_ (CK_put (by omega)) (MK_put (by omega))
  have e : mput mr 141 j y 138 = mr 138 := by rw [mput_c _ _ _ (by omega)]
  rw [e]
  exact WR_off h.1 (fun c z hc => by
    have := rc_le hc
    rw [mput_c _ _ _ (by omega)])
theorem no_c {i : Nat} {m : Mem} (h7 : i < 7) : fX8_no (o32 i) m = some (-1000000 - o32 i, mput m 136 i (m 136 i + 1)) := by
  unfold fX8_no
  rw [if_neg (not_lt0 (by omega)), if_neg (by rw [show (7 : Int32) = o32 7 from rfl, o_le (by omega) (by omega)]; omega), if_pos (o_inb h7 (by omega)), if_pos (o_inb h7 (by omega)), o_tn (by omega)]
theorem fnd_m {i : Nat} {m : Mem} {x : Int32} (h7 : i < 7) (hx : -1000000 - x = o32 i) : fX9_finding x m = some (x, mput m 141 i (m 141 i + 1)) := by
  unfold fX9_finding
  rw [hx, if_pos (o_inb h7 (by omega)), if_pos (o_inb h7 (by omega)), o_tn (by omega)]
theorem err_g {mc mr : Mem} {i : Nat} {x y : Int32} (h7 : i < 7) (hy : y = o32 i) (hx : -1000000 - x = o32 i) (hxy : -1000000 - o32 i = x) (h : RLx mc mr) : Sm ((fX8_no y mc).bind fun q => some (q.1, q.2)) ((fX9_finding x mr).bind fun q => some (q.1, q.2)) := by
  rw [hy, no_c h7, fnd_m h7 hx, hxy]
  exact ⟨_, _, _, rfl, rfl, RL_e h⟩
theorem err1 {mc mr : Mem} (h : RLx mc mr) : Sm ((fX8_no 1 mc).bind fun q => some (q.1, q.2)) ((fX9_finding (-1000001) mr).bind fun q => some (q.1, q.2)) := err_g (i := 1) (by omega) rfl (by decide) (by decide) h
theorem err2 {mc mr : Mem} (h : RLx mc mr) : Sm ((fX8_no 2 mc).bind fun q => some (q.1, q.2)) ((fX9_finding (-1000002) mr).bind fun q => some (q.1, q.2)) := err_g (i := 2) (by omega) rfl (by decide) (by decide) h
theorem err3 {mc mr : Mem} (h : RLx mc mr) : Sm ((fX8_no 3 mc).bind fun q => some (q.1, q.2)) ((fX9_finding (-1000003) mr).bind fun q => some (q.1, q.2)) := err_g (i := 3) (by omega) rfl (by decide) (by decide) h
theorem err4 {mc mr : Mem} (h : RLx mc mr) : Sm ((fX8_no 4 mc).bind fun q => some (q.1, q.2)) ((fX9_finding (-1000004) mr).bind fun q => some (q.1, q.2)) := err_g (i := 4) (by omega) rfl (by decide) (by decide) h
theorem err5 {mc mr : Mem} (h : RLx mc mr) : Sm ((fX8_no 5 mc).bind fun q => some (q.1, q.2)) ((fX9_finding (-1000005) mr).bind fun q => some (q.1, q.2)) := err_g (i := 5) (by omega) rfl (by decide) (by decide) h
theorem err6 {mc mr : Mem} (h : RLx mc mr) : Sm ((fX8_no 6 mc).bind fun q => some (q.1, q.2)) ((fX9_finding (-1000006) mr).bind fun q => some (q.1, q.2)) := err_g (i := 6) (by omega) rfl (by decide) (by decide) h
theorem err31 {mc mr : Mem} (h : RLx mc mr) : Df ((fX8_no 3 mc).bind fun q => some (q.1, q.2)) ((fX9_finding (-1000001) mr).bind fun q => some (q.1, q.2)) := by
  rw [show fX8_no 3 mc = _ from no_c (i := 3) (by omega), fnd_m (i := 1) (by omega) (by decide)]
  exact ⟨_, _, _, _, rfl, rfl, RL_e h⟩
theorem isb {mc mr : Mem} {r : Nat → List Nat} {al : Nat → Bool} {f : Nat → Nat → Nat} {q : Nat → List Nat} (h : WS 0 mc (mr 138) r al f q) (x : Int32) : (fX0_has 0 x mc = 0 ∧ fX9_is x mr = some 0) ∨ ∃ n, n < 16 ∧ x = o32 n ∧ al n = true ∧ fX0_has 0 x mc = 1 ∧ fX9_is x mr = some 1 := by
  rcases has_any (WS_4 h) x with h1 | ⟨n, n1, n2, n3, n4⟩
  · rcases is_any (WS_3 h) x with h2 | ⟨n, n1, n2, n3, n4⟩
    · exact .inl ⟨h1, h2⟩
    · rw [n2, has_c (WS_4 h) n1, n3] at h1
      exact absurd h1 (by decide)
  · have e := is_s n1 (WS_3 h)
    rw [n3] at e
    rw [n2] at n4 ⊢
    exact .inr ⟨n, n1, rfl, n3, n4, e⟩
theorem twob {mc mr : Mem} {r : Nat → List Nat} {al : Nat → Bool} {f : Nat → Nat → Nat} {q : Nat → List Nat} (h : WS 0 mc (mr 138) r al f q) (x y : Int32) : (fX8_areBubbles x y mc = 0 ∧ fX9_areTwo x y mr = some 0) ∨ (∃ a b, a < 16 ∧ b < 16 ∧ a ≠ b ∧ x = o32 a ∧ y = o32 b ∧ al a = true ∧ al b = true ∧ fX8_areBubbles x y mc = 1 ∧ fX9_areTwo x y mr = some 1) ∨ ∃ a, a < 16 ∧ x = o32 a ∧ y = o32 a ∧ al a = true ∧ fX8_areBubbles x y mc = 1 ∧ fX9_areTwo x y mr = some 0 := by
  unfold fX8_areBubbles fX9_areTwo
  rcases isb h x with ⟨a1, a2⟩ | ⟨a, a1, a2, a3, a4, a5⟩
  · left
    rw [if_pos a1, a2]
    exact ⟨rfl, rfl⟩
  · rcases isb h y with ⟨b1, b2⟩ | ⟨b, b1, b2, b3, b4, b5⟩
    · left
      rw [a4, if_neg (by decide), if_pos b1, a5, Option.bind_some, if_neg (by decide), b2]
      exact ⟨rfl, rfl⟩
    · right
      rw [a4, b4, if_neg (by decide), if_neg (by decide), a5, b5, Option.bind_some, if_neg (by decide), Option.bind_some, if_neg (by decide)]
      by_cases e : a = b
      · subst e
        right
        exact ⟨a, a1, a2, b2, a3, rfl, by rw [if_pos (by rw [a2, b2])]⟩
      · left
        exact ⟨a, b, a1, b1, e, a2, b2, a3, b3, rfl, by rw [if_neg (by rw [a2, b2, o_eq (by omega) (by omega)]; exact e)]⟩
theorem noself {r : Nat → List Nat} {al : Nat → Bool} {a : Nat} (hg : Gr r al) (ha : a < 16) (ala : al a = true) : a ∉ r a := fun z => ((hg.1 a ha ala a z).2 (by omega)).2.1 rfl
theorem turn_o {mc mr : Mem} (h : RLx mc mr) (x y : Int32) : Df (fX8_turn x y mc) (fX9_turn x y mr) := by
  have hh := h
  obtain ⟨⟨r, al, f, q, w⟩, _⟩ := h
  have G := WS_1 w
  unfold fX8_turn fX9_turn bX9_turn_34
  rcases twob w x y with ⟨a1, a2⟩ | ⟨a, b, a1, a2, a3, a4, a5, a6, a7, a8, a9⟩ | ⟨a, a1, a2, a3, a4, a5, a6⟩
  · rw [if_pos a1, a2, Option.bind_some, if_pos rfl]
    exact Sm_Df (err1 hh)
  · rw [a8, a9, a4, a5, if_neg (by decide), Option.bind_some, if_neg (by decide), two_m (WS_3 w) a1 a2 a6, Option.bind_some]
    by_cases hm : b ∈ r a
    · obtain ⟨v, v1, v2, v3⟩ := canTurn_R w a1 a2 a6 a7 hm
      rw [if_pos hm, if_neg (by decide), v1, v2, Option.bind_some, Option.bind_some]
      rcases v3 with v3 | ⟨v3, v4⟩
      · rw [if_pos v3, if_pos v3]
        exact Sm_Df (err3 hh)
      · obtain ⟨m', mr', t1, t2, t3, t4, t5, t6⟩ := turn_R w a1 a2 a6 a7 hm v4
        rw [if_neg v3, if_neg v3, t1, t2, Option.bind_some, Option.bind_some, if_pos (o_inb a1 (by omega)), sd_c t3 a1 a6, sd_m t3 a1 a6, Option.bind_some]
        exact ⟨_, _, _, _, rfl, rfl, RL_RW hh ⟨⟨_, _, _, _, t3⟩, t4, t5, t6⟩⟩
    · have e : fX0_canTurn 0 (o32 a) (o32 b) mc = some 0 := by
        unfold fX0_canTurn
        rw [isWall_c (WS_4 w) a1 a2, decide_eq_false hm, Bool.and_false, Bool.and_false]
        rfl
      rw [if_neg hm, if_pos rfl, e, Option.bind_some, if_pos rfl]
      exact Sm_Df (err3 hh)
  · have e : fX0_canTurn 0 (o32 a) (o32 a) mc = some 0 := by
      unfold fX0_canTurn
      rw [isWall_c (WS_4 w) a1 a1, decide_eq_false (noself G a1 a4), Bool.and_false, Bool.and_false]
      rfl
    rw [a5, a6, a2, a3, if_neg (by decide), Option.bind_some, if_pos rfl, e, Option.bind_some, if_pos rfl]
    exact err31 hh
theorem burst_o {mc mr : Mem} (h : RLx mc mr) (x y : Int32) : Df (fX8_burst x y mc) (fX9_burst x y mr) := by
  have hh := h
  obtain ⟨⟨r, al, f, q, w⟩, _⟩ := h
  have G := WS_1 w
  unfold fX8_burst fX9_burst bX9_burst_34
  rcases twob w x y with ⟨a1, a2⟩ | ⟨a, b, a1, a2, a3, a4, a5, a6, a7, a8, a9⟩ | ⟨a, a1, a2, a3, a4, a5, a6⟩
  · rw [if_pos a1, a2, Option.bind_some, if_pos rfl]
    exact Sm_Df (err1 hh)
  · rw [a8, a9, a4, a5, if_neg (by decide), Option.bind_some, if_neg (by decide), two_m (WS_3 w) a1 a2 a6, Option.bind_some]
    by_cases hm : b ∈ r a
    · rw [if_pos hm, if_neg (by decide), canBurst_c (WS_4 w) G a1 a2 a6 a7 hm, canBurst_s a1 a2 (WS_3 w) G a6 a7 hm, Option.bind_some, Option.bind_some]
      cases hb : mayBur r a b with
      | false =>
        rw [if_pos (show i01 false = 0 from rfl), if_pos (show i01 false = 0 from rfl)]
        exact Sm_Df (err3 hh)
      | true =>
        obtain ⟨m', mr', t1, t2, t3, t4⟩ := unite_R w a1 a2 a3 a6 a7 hm hb
        rw [if_neg (show ¬ i01 true = 0 by decide), if_neg (show ¬ i01 true = 0 by decide), t1, t2, Option.bind_some, Option.bind_some]
        exact ⟨_, _, _, _, rfl, rfl, RL_RW hh t3⟩
    · have e : fX0_canBurst 0 (o32 a) (o32 b) mc = some 0 := by
        unfold fX0_canBurst
        rw [isWall_c (WS_4 w) a1 a2, decide_eq_false hm, Bool.and_false, Bool.and_false]
        rfl
      rw [if_neg hm, if_pos rfl, e, Option.bind_some, if_pos rfl]
      exact Sm_Df (err3 hh)
  · have e : fX0_canBurst 0 (o32 a) (o32 a) mc = some 0 := by
      unfold fX0_canBurst
      rw [isWall_c (WS_4 w) a1 a1, decide_eq_false (noself G a1 a4), Bool.and_false, Bool.and_false]
      rfl
    rw [a5, a6, a2, a3, if_neg (by decide), Option.bind_some, if_pos rfl, e, Option.bind_some, if_pos rfl]
    exact err31 hh
end
section
/-! ACTS ON BUBBLES AND WALLS, ON -/
theorem win {l h : Nat} (hl : l < 100000) (hh : h < 100000) (x : Int32) : fX9_within x (o32 l) (o32 h) = 0 ∨ ∃ n, l ≤ n ∧ n ≤ h ∧ x = o32 n ∧ fX9_within x (o32 l) (o32 h) = 1 := by
  by_cases e : fX9_within x (o32 l) (o32 h) = 0
  · exact .inl e
  · obtain ⟨n, h1, h2, h3⟩ := within_lh hl hh e
    refine .inr ⟨n, h1, h2, h3, ?_⟩
    unfold fX9_within at e ⊢
    split
    · rename_i c; rw [if_pos c] at e; exact absurd rfl e
    · rename_i c
      rw [if_neg c] at e
      split
      · rename_i c2; rw [if_pos c2] at e; exact absurd rfl e
      · rfl
theorem one0 : ¬ (1 : Int32) = 0 := by decide
theorem ttt0 : ¬ i01 (true && (true && true)) = 0 := by decide
theorem wi_eq (x a b : Int32) : fX8_within x a b = fX9_within x a b := rfl
theorem beside_o {mc mr : Mem} (h : RLx mc mr) (x y : Int32) : Sm (fX8_beside x y mc) (fX9_beside x y mr) := by
  have hh := h
  obtain ⟨⟨r, al, f, q, w⟩, _⟩ := h
  have G := WS_1 w
  unfold fX8_beside fX9_beside bX8_beside_14
  rcases twob w x y with ⟨a1, a2⟩ | ⟨a, b, a1, a2, a3, a4, a5, a6, a7, a8, a9⟩ | ⟨a, a1, a2, a3, a4, a5, a6⟩
  · rw [a1, a2, Option.bind_some, if_pos rfl, if_pos rfl]
    split <;> exact err1 hh
  · rw [a8, a9, a4, a5, if_neg (by rw [o_eq (by omega) (by omega)]; exact a3), if_neg (by decide), Option.bind_some, if_neg (by decide), two_m (WS_3 w) a1 a2 a6, isWall_c (WS_4 w) a1 a2, a6, a7, Option.bind_some, Option.bind_some]
    by_cases hm : b ∈ r a
    · rw [if_pos hm, decide_eq_true hm, if_neg (by decide), if_neg (by decide)]
      exact ⟨_, _, _, rfl, rfl, hh⟩
    · rw [if_neg hm, decide_eq_false hm, if_pos (by decide), if_pos rfl]
      exact ⟨_, _, _, rfl, rfl, hh⟩
  · rw [if_pos (by rw [a2, a3]), a6, Option.bind_some, if_pos rfl]
    exact err1 hh
theorem end_o {mc mr : Mem} (h : RLx mc mr) (x y z : Int32) : Df (fX8_end x y z mc) (fX9_end x y z mr) := by
  have hh := h
  obtain ⟨⟨r, al, f, q, w⟩, _⟩ := h
  have G := WS_1 w
  unfold fX8_end fX9_end bX8_end_18 bX9_end_18
  rcases twob w x y with ⟨a1, a2⟩ | ⟨a, b, a1, a2, a3, a4, a5, a6, a7, a8, a9⟩ | ⟨a, a1, a2, a3, a4, a5, a6⟩
  · rw [a1, a2, Option.bind_some, if_pos rfl, if_pos rfl]
    exact Sm_Df (err1 hh)
  · rw [a8, a9, a4, a5, if_neg one0, Option.bind_some, if_neg one0, wi_eq]
    by_cases c : fX9_within z 0 1 = 0
    · rw [if_pos c, if_pos c]
      exact Sm_Df (err1 hh)
    · rw [if_neg c, if_neg c, two_m (WS_3 w) a1 a2 a6, isWall_c (WS_4 w) a1 a2, a6, a7, Option.bind_some, Option.bind_some]
      by_cases hm : b ∈ r a
      · have R := ((WS_3 w) a a1).2 a6
        have g := CS_g (WS_4 w) a1 a6
        rw [if_pos hm, decide_eq_true hm, if_neg ttt0, if_neg one0, ahead_c a1 (by omega) g hm, behind_c a1 (by omega) g hm, ahead_s a1 (by omega) R hm, behind_s a1 (by omega) R hm, Option.bind_some, Option.bind_some, Option.bind_some, Option.bind_some]
        by_cases z0 : z = 0
        · rw [if_pos z0, if_pos z0]
          exact ⟨_, _, _, _, rfl, rfl, hh⟩
        · rw [if_neg z0, if_neg z0]
          exact ⟨_, _, _, _, rfl, rfl, hh⟩
      · rw [if_neg hm, decide_eq_false hm, if_pos (by decide), if_pos rfl]
        exact Sm_Df (err3 hh)
  · rw [a5, a6, if_neg one0, Option.bind_some, if_pos rfl, wi_eq]
    by_cases c : fX9_within z 0 1 = 0
    · rw [if_pos c]
      exact Sm_Df (err1 hh)
    · rw [if_neg c, a2, a3, isWall_c (WS_4 w) a1 a1, decide_eq_false (noself G a1 a4), Bool.and_false, Bool.and_false, Option.bind_some, if_pos (by decide)]
      exact err31 hh
theorem passes_o {mc mr : Mem} (h : RLx mc mr) (x y : Int32) : Df (fX8_passes x y mc) (fX9_passes x y mr) := by
  have hh := h
  obtain ⟨⟨r, al, f, q, w⟩, _⟩ := h
  have G := WS_1 w
  unfold fX8_passes fX9_passes
  rcases twob w x y with ⟨a1, a2⟩ | ⟨a, b, a1, a2, a3, a4, a5, a6, a7, a8, a9⟩ | ⟨a, a1, a2, a3, a4, a5, a6⟩
  · rw [a1, a2, Option.bind_some, if_pos rfl, if_pos rfl]
    exact Sm_Df (err1 hh)
  · rw [a8, a9, a4, a5, if_neg one0, Option.bind_some, if_neg one0, two_m (WS_3 w) a1 a2 a6, isWall_c (WS_4 w) a1 a2, a6, a7, Option.bind_some, Option.bind_some]
    by_cases hm : b ∈ r a
    · rw [if_pos hm, decide_eq_true hm, if_neg ttt0, if_neg one0]
      have fin : ∀ m1 mr1, NF 0 mc m1 → F146 mr mr1 → RLx m1 mr1 := fun m1 mr1 n1 n2 => RL_k hh ⟨r, al, f, q, WS_NF w n1 n2⟩ (CK_CF (NF_CF n1)) (MK_MF (F146_MF n2))
      by_cases c : o32 b ≤ o32 a
      · obtain ⟨v, m1, mr1, e1, e2, n1, n2⟩ := passing_R w a2 a1 a7 a6
        rw [if_pos c, if_pos c, e1, e2, Option.bind_some, Option.bind_some]
        exact ⟨_, _, _, _, rfl, rfl, fin _ _ n1 n2⟩
      · obtain ⟨v, m1, mr1, e1, e2, n1, n2⟩ := passing_R w a1 a2 a6 a7
        rw [if_neg c, if_neg c, e1, e2, Option.bind_some, Option.bind_some]
        exact ⟨_, _, _, _, rfl, rfl, fin _ _ n1 n2⟩
    · rw [if_neg hm, decide_eq_false hm, if_pos (by decide), if_pos rfl]
      exact Sm_Df (err3 hh)
  · rw [a5, a6, if_neg one0, Option.bind_some, if_pos rfl, a2, a3, isWall_c (WS_4 w) a1 a1, decide_eq_false (noself G a1 a4), Bool.and_false, Bool.and_false, Option.bind_some, if_pos (by decide)]
    exact err31 hh
theorem can_o {mc mr : Mem} (h : RLx mc mr) (x y z : Int32) : Df (fX8_can x y z mc) (fX9_can x y z mr) := by
  have hh := h
  obtain ⟨⟨r, al, f, q, w⟩, _⟩ := h
  have G := WS_1 w
  have C := WS_4 w
  have S := WS_3 w
  unfold fX8_can fX9_can bX8_can_42 bX9_can_31 bX8_can_48 bX9_can_38 bX8_can_89 bX9_can_71 bX9_can_64 bX9_can_103
  rw [wi_eq]
  rcases win (l := 0) (h := 2) (by omega) (by omega) x with c | ⟨n, _, n2, n3, n4⟩
  · rw [if_pos (show fX9_within x 0 2 = 0 from c), if_pos (show fX9_within x 0 2 = 0 from c)]
    exact Sm_Df (err1 hh)
  · have c : ¬ fX9_within x 0 2 = 0 := by rw [show fX9_within x 0 2 = 1 from n4]; decide
    rw [if_neg c, if_neg c]
    have two : (2 : Int32) = o32 2 := rfl
    by_cases x2 : n = 2
    · subst x2
      have e2 : x = 2 := n3
      have le2 : (2 : Int32) ≤ x := by rw [e2]; decide
      have x0 : ¬ x = 0 := by rw [e2]; decide
      have x1 : ¬ x = 1 := by rw [e2]; decide
      rcases isb w y with ⟨a1, a2⟩ | ⟨a, a1, a2, a3, a4, a5⟩
      · rw [if_pos a1, a2, Option.bind_some, if_pos rfl]
        exact Sm_Df (err1 hh)
      · have la := (CS_g C a1 a3).1
        rw [a4, a5, if_neg (show ¬ (1 : Int32) = 0 by decide), Option.bind_some, if_neg (show ¬ (1 : Int32) = 0 by decide), if_pos e2, if_pos e2, if_pos le2, if_pos e2, a2, if_pos (o_inb a1 (by omega)), sd_c w a1 a3, sd_m w a1 a3, Option.bind_some]
        by_cases c3 : (r a).length = 3
        · have ie : o32 (r a).length = 3 := by rw [c3]; rfl
          rw [if_pos ie, if_pos ie, if_neg (show ¬ (1 : Int32) = 0 by decide), if_neg x0, if_neg x0, if_neg x1, if_neg x1, canVanish_c C G a1 a3, canVanish_s a1 S G a3, decide_eq_true c3, Bool.true_and, Option.bind_some, Option.bind_some]
          split
          · exact ⟨_, _, _, _, rfl, rfl, hh⟩
          · exact ⟨_, _, _, _, rfl, rfl, hh⟩
        · have ie : ¬ o32 (r a).length = 3 := by rw [show (3 : Int32) = o32 3 from rfl, o_eq (by omega) (by omega)]; exact c3
          rw [if_neg ie, if_neg ie, if_pos rfl]
          exact Sm_Df (err3 hh)
    · have nx2 : ¬ x = 2 := by rw [n3, two, o_eq (by omega) (by omega)]; exact x2
      have nle2 : ¬ (2 : Int32) ≤ x := by rw [n3, two, o_le (by omega) (by omega)]; omega
      have i1 : ¬ (1 : Int32) = 0 := by decide
      rw [if_neg nx2, if_neg nx2, if_neg nle2, if_neg nx2]
      rcases isb w y with ⟨a1, a2⟩ | ⟨a, a1, a2, a3, a4, a5⟩
      · rw [if_pos a1, a2, Option.bind_some, if_pos rfl]
        exact Sm_Df (err1 hh)
      · rcases isb w z with ⟨b1, b2⟩ | ⟨b, b1, b2, b3, b4, b5⟩
        · have t0 : fX9_areTwo y z mr = some 0 := by
            unfold fX9_areTwo
            rw [a5, Option.bind_some, if_neg i1, b2]
            rfl
          rw [a4, a5, if_neg i1, Option.bind_some, if_neg i1, if_pos b1, t0, Option.bind_some, if_pos rfl]
          exact Sm_Df (err1 hh)
        · rw [a4, a5, if_neg i1, Option.bind_some, if_neg i1, b4, if_neg i1]
          by_cases e : a = b
          · subst e
            have t0 : fX9_areTwo y z mr = some 0 := by
              unfold fX9_areTwo
              rw [a5, Option.bind_some, if_neg i1, b5, Option.bind_some, if_neg i1, if_pos (by rw [a2, b2])]
            rw [t0, Option.bind_some, if_pos rfl, a2, b2, isWall_c C a1 a1, decide_eq_false (noself G a1 a3), Bool.and_false, Bool.and_false, Option.bind_some, if_pos (show i01 false = 0 from rfl)]
            exact err31 hh
          · have t1 : fX9_areTwo y z mr = some 1 := by
              unfold fX9_areTwo
              rw [a5, Option.bind_some, if_neg i1, b5, Option.bind_some, if_neg i1, if_neg (by rw [a2, b2, o_eq (by omega) (by omega)]; exact e)]
            rw [t1, Option.bind_some, if_neg i1, a2, b2, isWall_c C a1 b1, two_m S a1 b1 a3, a3, b3, Option.bind_some, Option.bind_some]
            by_cases hm : b ∈ r a
            · obtain ⟨v, v1, v2, v3⟩ := canTurn_R w a1 b1 a3 b3 hm
              rw [decide_eq_true hm, if_pos hm, if_neg (show ¬ i01 (true && (true && true)) = 0 by decide), if_neg i1, v1, v2, canBurst_c C G a1 b1 a3 b3 hm, canBurst_s a1 b1 S G a3 b3 hm, Option.bind_some, Option.bind_some, Option.bind_some, Option.bind_some]
              by_cases x0 : x = 0
              · rw [if_pos x0, if_pos x0]
                split
                · exact ⟨_, _, _, _, rfl, rfl, hh⟩
                · exact ⟨_, _, _, _, rfl, rfl, hh⟩
              · have x1 : x = 1 := by
                  have : n = 1 := by
                    have : ¬ n = 0 := fun z => x0 (by rw [n3, z]; rfl)
                    omega
                  rw [n3, this]
                  rfl
                rw [if_neg x0, if_neg x0, if_pos x1, if_pos x1]
                split
                · exact ⟨_, _, _, _, rfl, rfl, hh⟩
                · exact ⟨_, _, _, _, rfl, rfl, hh⟩
            · rw [decide_eq_false hm, if_neg hm, if_pos (show i01 (true && (true && false)) = 0 by decide), if_pos rfl]
              exact Sm_Df (err3 hh)
end
section
/-! ACTS ON ONE BUBBLE -/
noncomputable def cnt (al : Nat → Bool) (i : Nat) : Nat := ((List.range i).map (fun b => if al b then 1 else 0)).sum
theorem cnt_s (al : Nat → Bool) (i : Nat) : cnt al (i + 1) = cnt al i + (if al i then 1 else 0) := by
  unfold cnt
  rw [List.range_succ, List.map_append, List.sum_append]
  rfl
theorem cnt_le (al : Nat → Bool) : ∀ i, cnt al i ≤ i
  | 0 => Nat.le_refl _
  | i + 1 => by
    have := cnt_le al i
    rw [cnt_s]
    split <;> omega
theorem many_s {mr : Mem} {r : Nat → List Nat} {al : Nat → Bool} (h : RS mr r al) : fX9_many mr = some (o32 (cnt al 16)) := by
  unfold fX9_many
  refine lp_fwd (body := lX9_many_4 mr) 16 (fun i => (o32 (cnt al i), o32 i)) fu (fun i hi => ?_) ?_ (lt_fu (by omega))
  · unfold lX9_many_4
    dsimp only
    rw [if_neg (not_16 hi), show fX9_of (o32 i) 0 mr = _ from of_o (f := 0) hi (by omega), Option.bind_some, show mr 138 (12 + 50 * i + 0) = _ from (h i hi).1, cnt_s, o_s]
    cases al i with
    | true => rw [if_pos rfl, if_pos rfl, o_s]
    | false =>
      rw [if_neg (by decide), if_neg (by decide)]
      show some (Sum.inl (o32 (cnt al i) + o32 0, _)) = _
      rw [o_add]
  · unfold lX9_many_4
    rfl
theorem howMany_s {k : Nat} {mc : Mem} {r : Nat → List Nat} {al : Nat → Bool} (h : CS k mc r al) : fX0_howMany k mc = o32 (cnt al 16) := by
  obtain ⟨⟨n, h1, h2, h3⟩, _⟩ := h
  unfold fX0_howMany
  rw [h2, bitCount_o h1, pc_of h3]
  rfl
theorem many_R {k : Nat} {m mr : Mem} (h : WR k m (mr 138)) : ∃ n, n ≤ 16 ∧ fX0_howMany k m = o32 n ∧ fX9_many mr = some (o32 n) := by
  obtain ⟨r, al, f, q, w⟩ := h
  exact ⟨_, cnt_le al 16, howMany_s (WS_4 w), many_s (WS_3 w)⟩
theorem vanish_o {mc mr : Mem} (h : RLx mc mr) (x : Int32) : Sm (fX8_vanish x mc) (fX9_vanish x mr) := by
  have hh := h
  obtain ⟨⟨r, al, f, q, w⟩, _⟩ := h
  have G := WS_1 w
  unfold fX8_vanish fX9_vanish bX9_vanish_32
  rcases isb w x with ⟨a1, a2⟩ | ⟨a, a1, a2, a3, a4, a5⟩
  · rw [if_pos a1, a2, Option.bind_some, if_pos rfl]
    exact err1 hh
  · have la := (CS_g (WS_4 w) a1 a3).1
    rw [a4, a5, if_neg one0, Option.bind_some, if_neg one0, a2, canVanish_c (WS_4 w) G a1 a3, sd_m w a1 a3, Option.bind_some, Option.bind_some]
    by_cases c3 : (r a).length = 3
    · have ie : o32 (r a).length = 3 := by rw [c3]; rfl
      rw [if_pos ie, decide_eq_true c3, Bool.true_and, canVanish_s a1 (WS_3 w) G a3, Option.bind_some]
      cases hv : mayVan r a with
      | false =>
        rw [if_pos (show i01 false = 0 from rfl), if_pos (show i01 false = 0 from rfl)]
        exact err3 hh
      | true =>
        obtain ⟨m', mr', t1, t2, t3, t4, t5, t6⟩ := lose_R w a1 a3 c3
        rw [if_neg (show ¬ i01 true = 0 by decide), if_neg (show ¬ i01 true = 0 by decide), t1, t2, Option.bind_some, Option.bind_some, howMany_s (WS_4 t3), many_s (WS_3 t3), Option.bind_some]
        exact ⟨_, _, _, rfl, rfl, RL_RW hh ⟨⟨_, _, _, _, t3⟩, t4, t5, t6⟩⟩
    · have ie : ¬ o32 (r a).length = 3 := by rw [show (3 : Int32) = o32 3 from rfl, o_eq (by omega) (by omega)]; exact c3
      rw [if_neg ie, decide_eq_false c3, Bool.false_and, if_pos (show i01 false = 0 from rfl)]
      exact err3 hh
theorem ring_o {mc mr : Mem} (h : RLx mc mr) (x y : Int32) : Sm (fX8_ring x y mc) (fX9_ring x y mr) := by
  have hh := h
  obtain ⟨⟨r, al, f, q, w⟩, _⟩ := h
  unfold fX8_ring fX9_ring bX8_ring_40
  rcases isb w x with ⟨a1, a2⟩ | ⟨a, a1, a2, a3, a4, a5⟩
  · rw [if_pos a1, a2, Option.bind_some, if_pos rfl]
    exact err1 hh
  · have ga := CS_g (WS_4 w) a1 a3
    have Ra := ((WS_3 w) a a1).2 a3
    have la := ga.1
    rw [a4, a5, if_neg one0, Option.bind_some, if_neg one0, a2, if_pos (o_inb a1 (by omega)), sd_c w a1 a3, sd_m w a1 a3, Option.bind_some]
    by_cases c : ∃ n, n < (r a).length ∧ y = o32 n
    · obtain ⟨n, n1, n2⟩ := c
      subst n2
      have wi : ¬ fX9_within (o32 n) 0 (o32 (r a).length - 1) = 0 := by
        rw [show o32 (r a).length - 1 = o32 ((r a).length - 1) from o_sub (b := 1) (by omega) (by omega), show fX9_within (o32 n) 0 (o32 ((r a).length - 1)) = _ from within_o (l := 0) (by omega) (by omega) (by omega), if_pos (by omega)]
        decide
      rw [if_neg (not_lt0 (by omega)), if_pos (by rw [o_lt (by omega) (by omega)]; exact n1), if_neg wi, toldAt_c a1 ga (by omega) (by omega), leastIn_s a1 Ra, Option.bind_some, Option.bind_some, told_m2 a1 Ra (by omega) (by omega), Option.bind_some]
      exact ⟨_, _, _, rfl, rfl, hh⟩
    · have wi : fX9_within y 0 (o32 (r a).length - 1) = 0 := by
        by_cases l0 : (r a).length = 0
        · rw [l0]
          unfold fX9_within
          by_cases y0 : y < 0
          · rw [if_pos y0]
          · rw [if_neg y0, if_pos]
            rw [Int32.lt_iff_toInt_lt] at y0 ⊢
            have e0 : (0 : Int32).toInt = 0 := by decide
            have e1 : (o32 0 - 1 : Int32).toInt = -1 := by decide
            omega
        · rw [show o32 (r a).length - 1 = o32 ((r a).length - 1) from o_sub (b := 1) (by omega) (by omega)]
          rcases win (l := 0) (h := (r a).length - 1) (by omega) (by omega) y with z | ⟨n, _, n2, n3, _⟩
          · exact z
          · exact absurd ⟨n, by omega, n3⟩ c
      rw [if_pos wi]
      by_cases y0 : y < 0
      · rw [if_pos y0]
        exact err2 hh
      · rw [if_neg y0, if_neg]
        · exact err2 hh
        · intro z
          refine c ⟨y.toInt.toNat, ?_, ?_⟩
          · rw [Int32.lt_iff_toInt_lt] at z y0
            rw [o_ti (by omega)] at z
            have e0 : (0 : Int32).toInt = 0 := by decide
            omega
          · rw [Int32.lt_iff_toInt_lt] at z y0
            rw [o_ti (by omega)] at z
            have e0 : (0 : Int32).toInt = 0 := by decide
            exact i_eq (by omega) (by omega)
theorem bubbleIs_o {mc mr : Mem} (h : RLx mc mr) (x y : Int32) : Sm (fX8_bubbleIs x y mc) (fX9_bubbleIs x y mr) := by
  have hh := h
  obtain ⟨⟨r, al, f, q, w⟩, _⟩ := h
  unfold fX8_bubbleIs fX9_bubbleIs bX9_bubbleIs_18
  rcases isb w x with ⟨a1, a2⟩ | ⟨a, a1, a2, a3, a4, a5⟩
  · rw [if_pos a1, a2, Option.bind_some, if_pos rfl]
    exact err1 hh
  · have ga := CS_g (WS_4 w) a1 a3
    have Ra := ((WS_3 w) a a1).2 a3
    have ia := o_inb a1 (show a < 2147483648 by omega)
    have F := fun j h1 h2 => WS_5 w a a1 a3 j h1 h2
    have rd : ∀ j, j < 50 → fX9_of (o32 a) (o32 j) mr = some (mr 138 (12 + 50 * a + j)) := fun j hj => of_o a1 hj
    rw [a4, a5, if_neg one0, Option.bind_some, if_neg one0, a2]
    rcases win (l := 0) (h := 8) (by omega) (by omega) y with z | ⟨n, _, n2, n3, n4⟩
    · have ne : ∀ k, k ≤ 8 → ¬ y = o32 k := fun k hk e => by
        rw [e, within_o (by omega) (by omega) (by omega), if_pos (by omega)] at z
        exact absurd z (by decide)
      rw [if_pos (show fX9_within y 0 8 = 0 from z), if_neg (show ¬ y = 0 from ne 0 (by omega)), if_neg (show ¬ y = 1 from ne 1 (by omega)), if_neg (show ¬ y = 2 from ne 2 (by omega)), if_neg (show ¬ y = 3 from ne 3 (by omega)), if_neg (show ¬ y = 4 from ne 4 (by omega)), if_neg (show ¬ y = 5 from ne 5 (by omega)), if_neg (show ¬ y = 6 from ne 6 (by omega)), if_neg (show ¬ y = 7 from ne 7 (by omega)), if_neg (show ¬ y = 8 from ne 8 (by omega))]
      exact err1 hh
    · have z : ¬ fX9_within y 0 8 = 0 := by rw [show fX9_within y 0 8 = 1 from n4]; exact one0
      rw [if_neg z]
      subst n3
      match n, n2 with
      | 0, _ =>
        have e : fX9_of (o32 a) (1 + o32 0) mr = some (o32 (f a 1)) := by rw [← (F 1 (by omega) (by omega)).1]; exact rd 1 (by omega)
        have c : mc (cw 0 3) (o32 a).toNatClampNeg = o32 (f a 1) := fd_c w a1 a3 1 (by omega) (by omega)
        rw [if_pos (by decide), if_pos ia, c, if_neg (by decide), if_neg (by decide), if_neg (by decide), if_neg (by decide), e]
        exact ⟨_, _, _, rfl, rfl, hh⟩
      | 1, _ =>
        have e : fX9_of (o32 a) (1 + o32 1) mr = some (o32 (f a 2)) := by rw [← (F 2 (by omega) (by omega)).1]; exact rd 2 (by omega)
        have c : mc (cw 0 4) (o32 a).toNatClampNeg = o32 (f a 2) := fd_c w a1 a3 2 (by omega) (by omega)
        rw [if_neg (by decide), if_pos (by decide), if_pos ia, c, if_neg (by decide), if_neg (by decide), if_neg (by decide), if_neg (by decide), e]
        exact ⟨_, _, _, rfl, rfl, hh⟩
      | 2, _ =>
        have e : fX9_of (o32 a) (1 + o32 2) mr = some (o32 (f a 3)) := by rw [← (F 3 (by omega) (by omega)).1]; exact rd 3 (by omega)
        have c : mc (cw 0 5) (o32 a).toNatClampNeg = o32 (f a 3) := fd_c w a1 a3 3 (by omega) (by omega)
        rw [if_neg (by decide), if_neg (by decide), if_pos (by decide), if_pos ia, c, if_neg (by decide), if_neg (by decide), if_neg (by decide), if_neg (by decide), e]
        exact ⟨_, _, _, rfl, rfl, hh⟩
      | 3, _ =>
        have e : fX9_of (o32 a) (1 + o32 3) mr = some (o32 (f a 4)) := by rw [← (F 4 (by omega) (by omega)).1]; exact rd 4 (by omega)
        have c : mc (cw 0 6) (o32 a).toNatClampNeg = o32 (f a 4) := fd_c w a1 a3 4 (by omega) (by omega)
        rw [if_neg (by decide), if_neg (by decide), if_neg (by decide), if_pos (by decide), if_pos ia, c, if_neg (by decide), if_neg (by decide), if_neg (by decide), if_neg (by decide), e]
        exact ⟨_, _, _, rfl, rfl, hh⟩
      | 4, _ =>
        have e : fX9_of (o32 a) (1 + o32 4) mr = some (o32 (r a).length) := by rw [← Ra.2.1]; exact rd 5 (by omega)
        rw [if_neg (by decide), if_neg (by decide), if_neg (by decide), if_neg (by decide), if_pos (by decide), if_pos ia, sd_c w a1 a3, if_neg (by decide), if_neg (by decide), if_neg (by decide), if_neg (by decide), e]
        exact ⟨_, _, _, rfl, rfl, hh⟩
      | 5, _ =>
        rw [if_neg (by decide), if_neg (by decide), if_neg (by decide), if_neg (by decide), if_neg (by decide), if_pos (by decide), if_pos (by decide), glasses_c a1 ga, glasses_m a1 Ra]
        exact ⟨_, _, _, rfl, rfl, hh⟩
      | 6, _ =>
        rw [if_neg (by decide), if_neg (by decide), if_neg (by decide), if_neg (by decide), if_neg (by decide), if_neg (by decide), if_pos (by decide), if_neg (by decide), if_pos (by decide), dry_c w a1 a3, dry_m a1]
        exact ⟨_, _, _, rfl, rfl, hh⟩
      | 7, _ =>
        have c : mc (cw 0 3) (o32 a).toNatClampNeg = o32 (f a 1) := fd_c w a1 a3 1 (by omega) (by omega)
        rw [if_neg (by decide), if_neg (by decide), if_neg (by decide), if_neg (by decide), if_neg (by decide), if_neg (by decide), if_neg (by decide), if_pos (by decide), if_pos ia, c, if_neg (by decide), if_neg (by decide), if_pos (by decide), lets_m a1, (F 1 (by omega) (by omega)).1]
        exact ⟨_, _, _, rfl, rfl, hh⟩
      | 8, _ =>
        obtain ⟨v, m1, mr1, e1, e2, n1, n2⟩ := mark_R w a1 a3
        rw [if_neg (by decide), if_neg (by decide), if_neg (by decide), if_neg (by decide), if_neg (by decide), if_neg (by decide), if_neg (by decide), if_neg (by decide), if_pos (by decide), e1, if_neg (by decide), if_neg (by decide), if_neg (by decide), if_pos (by decide), e2]
        exact ⟨_, _, _, rfl, rfl, RL_k hh ⟨r, al, f, q, WS_NF w n1 n2⟩ (CK_CF (NF_CF n1)) (MK_MF (F146_MF n2))⟩
      | n + 9, h => exact absurd h (by omega)
end
section
/-! ACTS THAT SET -/
theorem as_up : ∀ kd, kd < 7 → ¬ o32 kd < 0 ∧ fX9_above (o32 kd) = (if kd = 0 then -1 else if kd = 2 then 1 else if kd = 5 then 3 else 0) := by decide +kernel
theorem as_lp {mr : Mem} {x : Int32} {t : Nat} {v e : Int32 × Mem} (ht : t < 7) (hv : bX9_as_49 x (o32 t) mr = some v) (he : bX9_as_49 x (-1) mr = some e) (kd : Nat) (hk : kd < 7) : lp (lX9_as_32 x (o32 t) mr) fu (o32 kd) = some (if underB kd t then v else e) := by
  obtain ⟨z, hz⟩ : ∃ z, fu = z + 10 := ⟨fu - 10, by have := lt_fu (n := 10) (by omega); omega⟩
  rw [hz]
  have hit : lX9_as_32 x (o32 t) mr (o32 t) = some (.inr v) := by
    unfold lX9_as_32
    rw [if_neg (as_up t ht).1, if_pos rfl, hv]
    rfl
  have miss : lX9_as_32 x (o32 t) mr (-1) = some (.inr e) := by
    unfold lX9_as_32
    rw [if_pos (by decide), he]
    rfl
  have st : ∀ k, k < 7 → k ≠ t → lX9_as_32 x (o32 t) mr (o32 k) = some (.inl (fX9_above (o32 k))) := fun k hk hn => by
    unfold lX9_as_32
    rw [if_neg (as_up k hk).1, if_neg (by rw [o_eq (by omega) (by omega)]; exact hn)]
  have L0 : ∀ n, lp (lX9_as_32 x (o32 t) mr) (n + 2) (o32 0) = some (if t = 0 then v else e) := fun n => by
    by_cases h : t = 0
    · rw [if_pos h]
      rw [h] at hit ⊢
      exact lp_e hit
    · rw [if_neg h, lp_i (st 0 (by omega) (fun z => h z.symm)), (as_up 0 (by omega)).2]
      exact lp_e miss
  have L1 : ∀ n k, k < 7 → fX9_above (o32 k) = 0 → lp (lX9_as_32 x (o32 t) mr) (n + 3) (o32 k) = some (if t = k ∨ t = 0 then v else e) := fun n k hk hu => by
    by_cases h : t = k
    · rw [if_pos (.inl h)]
      rw [h] at hit ⊢
      exact lp_e hit
    · rw [lp_i (st k hk (fun z => h z.symm)), hu, show (0 : Int32) = o32 0 from rfl, L0]
      by_cases h0 : t = 0
      · rw [if_pos h0, if_pos (.inr h0)]
      · rw [if_neg h0, if_neg (fun z => by omega)]
  have L2 : ∀ n k j, k < 7 → j < 7 → fX9_above (o32 k) = o32 j → fX9_above (o32 j) = 0 → lp (lX9_as_32 x (o32 t) mr) (n + 4) (o32 k) = some (if t = k ∨ t = j ∨ t = 0 then v else e) := fun n k j hk hj hu hu2 => by
    by_cases h : t = k
    · rw [if_pos (.inl h)]
      rw [h] at hit ⊢
      exact lp_e hit
    · rw [lp_i (st k hk (fun z => h z.symm)), hu, L1 n j hj hu2]
      by_cases h0 : t = j ∨ t = 0
      · rw [if_pos h0, if_pos (.inr h0)]
      · rw [if_neg h0, if_neg (fun z => by omega)]
  have fin : ∀ (p : Prop) [Decidable p], (p ↔ underB kd t = true) → some (if p then v else e) = some (if underB kd t then v else e) := fun p _ hp => by
    by_cases c : p
    · rw [if_pos c, if_pos (hp.mp c)]
    · rw [if_neg c, if_neg (fun z => c (hp.mpr z))]
  have ub : underB kd t = true ↔ t = kd ∨ t = 0 ∨ (kd = 2 ∧ t = 1) ∨ (kd = 5 ∧ t = 3) := by
    unfold underB
    simp only [Bool.or_eq_true, Bool.and_eq_true, decide_eq_true_eq]
    omega
  match kd, hk with
  | 0, _ => rw [L0]; exact fin _ (by rw [ub]; omega)
  | 1, _ => rw [L1 _ 1 (by omega) (by decide)]; exact fin _ (by rw [ub]; omega)
  | 2, _ => rw [L2 _ 2 1 (by omega) (by omega) (by decide) (by decide)]; exact fin _ (by rw [ub]; omega)
  | 3, _ => rw [L1 _ 3 (by omega) (by decide)]; exact fin _ (by rw [ub]; omega)
  | 4, _ => rw [L1 _ 4 (by omega) (by decide)]; exact fin _ (by rw [ub]; omega)
  | 5, _ => rw [L2 _ 5 3 (by omega) (by omega) (by decide) (by decide)]; exact fin _ (by rw [ub]; omega)
  | 6, _ => rw [L1 _ 6 (by omega) (by decide)]; exact fin _ (by rw [ub]; omega)
theorem isOne_eq (x : Int32) : fX1_isOne x = fX9_within x 0 6 := rfl
theorem as_o {mc mr : Mem} (h : RLx mc mr) (x y : Int32) : Sm (fX8_as x y mc) (fX9_as x y mr) := by
  have hh := h
  obtain ⟨⟨r, al, f, q, w⟩, _⟩ := h
  unfold fX8_as fX9_as bX8_as_21 bX9_as_18
  rw [isOne_eq]
  rcases isb w x with ⟨a1, a2⟩ | ⟨a, a1, a2, a3, a4, a5⟩
  · rw [if_pos a1, a2, Option.bind_some, if_pos rfl]
    exact err1 hh
  · have ia := o_inb a1 (show a < 2147483648 by omega)
    have l1 : f a 1 ≤ 6 := (WS_5 w a a1 a3 1 (by omega) (by omega)).2.2
    rw [a4, a5, if_neg one0, Option.bind_some, if_neg one0, a2]
    rcases win (l := 0) (h := 6) (by omega) (by omega) y with z | ⟨n, _, n2, n3, n4⟩
    · rw [if_pos (show fX9_within y 0 6 = 0 from z), if_pos (show fX9_within y 0 6 = 0 from z)]
      exact err1 hh
    · have z : ¬ fX9_within y 0 6 = 0 := by rw [show fX9_within y 0 6 = 1 from n4]; exact one0
      obtain ⟨v, mc1, mr1, e1, e2, e3⟩ := err5 hh
      have hv : bX9_as_49 (o32 a) (o32 n) mr = some (o32 (f a 2), mr) := by
        unfold bX9_as_49
        rw [if_pos (o_ge0 (by omega)), show fX9_of (o32 a) 2 mr = _ from fd_m w a1 a3 2 (by omega) (by omega)]
        rfl
      have he : bX9_as_49 (o32 a) (-1) mr = some (v, mr1) := by
        unfold bX9_as_49
        rw [if_neg (by decide)]
        exact e2
      rw [if_neg z, if_neg z, n3, if_pos ia, show mc (cw 0 3) (o32 a).toNatClampNeg = _ from fd_c w a1 a3 1 (by omega) (by omega), under_c (by omega) (by omega), show fX9_of (o32 a) 1 mr = _ from fd_m w a1 a3 1 (by omega) (by omega), Option.bind_some, Option.bind_some, as_lp (by omega) hv he _ (by omega)]
      cases underB (f a 1) n with
      | false =>
        rw [if_pos (show i01 false = 0 from rfl)]
        exact ⟨v, mc1, mr1, e1, rfl, e3⟩
      | true =>
        rw [if_neg (show ¬ i01 true = 0 by decide), if_pos ia, show mc (cw 0 4) (o32 a).toNatClampNeg = _ from fd_c w a1 a3 2 (by omega) (by omega)]
        exact ⟨_, _, _, rfl, rfl, hh⟩
theorem set_fld {mc mr : Mem} {r : Nat → List Nat} {al : Nat → Bool} {f : Nat → Nat → Nat} {q : Nat → List Nat} {b j v : Nat} (h : RLx mc mr) (w : WS 0 mc (mr 138) r al f q) (hb : b < 16) (h1 : 1 ≤ j) (h4 : j ≤ 4) (hv : v ≤ lim j) : RLx (mput mc (cw 0 (j + 2)) b (o32 v)) (mput mr 138 (12 + 50 * b + j) (o32 v)) := RL_k h ⟨r, al, _, q, WS_fld w hb h1 h4 hv⟩ (CK_CF (CF_put (by omega) (by omega))) (MK_MF (MF_put (by omega)))
theorem become_o {mc mr : Mem} (h : RLx mc mr) (x y : Int32) : Sm (fX8_become x y mc) (fX9_become x y mr) := by
  have hh := h
  obtain ⟨⟨r, al, f, q, w⟩, _⟩ := h
  unfold fX8_become fX9_become bX8_become_21 bX9_become_35
  rw [isOne_eq]
  rcases isb w x with ⟨a1, a2⟩ | ⟨a, a1, a2, a3, a4, a5⟩
  · rw [if_pos a1, a2, Option.bind_some, if_pos rfl]
    exact err1 hh
  · have ia := o_inb a1 (show a < 2147483648 by omega)
    rw [a4, a5, if_neg one0, Option.bind_some, if_neg one0, a2]
    rcases win (l := 0) (h := 6) (by omega) (by omega) y with z | ⟨n, _, n2, n3, n4⟩
    · rw [if_pos (show fX9_within y 0 6 = 0 from z), if_pos (show fX9_within y 0 6 = 0 from z)]
      exact err1 hh
    · have z : ¬ fX9_within y 0 6 = 0 := by rw [show fX9_within y 0 6 = 1 from n4]; exact one0
      rw [if_neg z, if_neg z, n3, if_pos ia, if_pos ia, show mc (cw 0 3) (o32 a).toNatClampNeg = _ from fd_c w a1 a3 1 (by omega) (by omega), o_tn (by omega), show (12 : Int32) + 50 * o32 a + 1 = o32 (12 + 50 * a + 1) from ad_o a 1, comes_op (by omega), (WS_5 w a a1 a3 1 (by omega) (by omega)).1]
      exact ⟨_, _, _, rfl, rfl, set_fld hh w a1 (by omega) (show 1 ≤ 4 by omega) n2⟩
theorem fill_o {mc mr : Mem} (h : RLx mc mr) (x y u : Int32) : Sm (fX8_fill x y u mc) (fX9_fill x y u mr) := by
  have hh := h
  obtain ⟨⟨r, al, f, q, w⟩, _⟩ := h
  unfold fX8_fill fX9_fill bX8_fill_33 bX9_fill_46 bX8_fill_66 bX8_fill_66a
  rw [wi_eq, wi_eq]
  rcases isb w x with ⟨a1, a2⟩ | ⟨a, a1, a2, a3, a4, a5⟩
  · rw [if_pos a1, a2, Option.bind_some, if_pos rfl]
    exact err1 hh
  · have ia := o_inb a1 (show a < 2147483648 by omega)
    rw [a4, a5, if_neg one0, Option.bind_some, if_neg one0, a2]
    rcases win (l := 0) (h := 1) (by omega) (by omega) y with z | ⟨n, _, n2, n3, n4⟩
    · rw [if_pos (show fX9_within y 0 1 = 0 from z), if_pos (show fX9_within y 0 1 = 0 from z)]
      exact err1 hh
    · have z : ¬ fX9_within y 0 1 = 0 := by rw [show fX9_within y 0 1 = 1 from n4]; exact one0
      rw [if_neg z, if_neg z]
      rcases win (l := 0) (h := 99999) (by omega) (by omega) u with z | ⟨p, _, p2, p3, p4⟩
      · rw [if_pos (show fX9_within u 0 99999 = 0 from z), if_pos (show fX9_within u 0 99999 = 0 from z)]
        exact err1 hh
      · have z : ¬ fX9_within u 0 99999 = 0 := by rw [show fX9_within u 0 99999 = 1 from p4]; exact one0
        rw [if_neg z, if_neg z, n3, p3, if_pos ia, if_pos ia, if_pos ia, if_pos ia, show mc (cw 0 4) (o32 a).toNatClampNeg = _ from fd_c w a1 a3 2 (by omega) (by omega), show mc (cw 0 5) (o32 a).toNatClampNeg = _ from fd_c w a1 a3 3 (by omega) (by omega), o_tn (by omega), show (12 : Int32) + 50 * o32 a + 2 = o32 (12 + 50 * a + 2) from ad_o a 2, o_add, comes_op (by omega)]
        by_cases n0 : n = 0
        · subst n0
          rw [if_pos (by decide), show mr 138 (12 + 50 * a + 2 + 0) = _ from (WS_5 w a a1 a3 2 (by omega) (by omega)).1]
          exact ⟨_, _, _, rfl, rfl, set_fld hh w a1 (by omega) (show 2 ≤ 4 by omega) p2⟩
        · have n1 : n = 1 := by omega
          subst n1
          rw [if_neg (by decide), show mr 138 (12 + 50 * a + 2 + 1) = _ from (WS_5 w a a1 a3 3 (by omega) (by omega)).1]
          exact ⟨_, _, _, rfl, rfl, set_fld hh w a1 (by omega) (show 3 ≤ 4 by omega) p2⟩
theorem seed_o {mc mr : Mem} (h : RLx mc mr) (x : Int32) : Sm (fX8_seed x mc) (fX9_seed x mr) := by
  have hh := h
  obtain ⟨⟨r, al, f, q, w⟩, _⟩ := h
  unfold fX8_seed fX9_seed
  rw [show fX9_comes 3 x mr = _ from comes_op (j := 3) (by omega), Option.bind_some, (WS_7 w).2.2.2.1]
  exact ⟨_, _, _, rfl, rfl, RL_k hh ⟨r, al, f, q, WS_z x w⟩ (CK_CF (CF_put (by omega) (by omega))) (MK_MF (MF_put (by omega)))⟩
end
section
/-! RULES, TICKS, A NEW FOAM -/
theorem WS_scal {k jc jm : Nat} {v : Int32} {m mr : Mem} {r : Nat → List Nat} {al : Nat → Bool} {f : Nat → Nat → Nat} {q : Nat → List Nat} (h : WS k m (mr 138) r al f q) (h1 : 6 ≤ jc) (h2 : jm ≤ 10) (h3 : jm ≠ 1) (h4 : jm ≠ 2) (hs : SC k (mput m (cw k 1) jc v) (mput mr 138 jm v 138)) : WS k (mput m (cw k 1) jc v) (mput mr 138 jm v 138) r al f q := by
  obtain ⟨a1, a2, a3, a4, a5, a6, a7, a8⟩ := h
  have ew : ∀ z, mput mr 138 jm v 138 z = if z = jm then v else mr 138 z := fun z => by
    rw [mput_get]
    simp only [true_and]
  refine ⟨a1, a2, RS_w a3 (fun b' hb' g hg => by rw [ew, if_neg (by omega)]), CS_same a4 (fun c z hc => ?_), FR_same a5 (fun o z h1 h2 => by rw [mput_c _ _ _ (cw_ne (by omega))]) (fun z h1 h2 => by rw [ew, if_neg (by omega)]), fun u hu => TR_same hu (a6 u hu) (fun o z ho => by rw [mput_c _ _ _ (cw_ne (by omega))]) (fun z hz => by rw [ew, if_neg (by omega)]), hs, TP_same a8 (fun o z ho => by rw [mput_get, if_neg (fun q => by have := cw_inj q.1; omega)]) (fun z hz => by rw [ew, if_neg (by omega)])⟩
  rcases hc with hc | hc | ⟨x, hx, hc⟩
  · rw [hc.1, mput_c _ _ _ (cw_ne (by omega))]
  · rw [hc, mput_c _ _ _ (cw_ne (by omega))]
  · rw [hc, mput_c _ _ _ (cw_ne (by omega))]
theorem SC_put {k jc jm : Nat} {v : Int32} {m mr : Mem} (h : SC k m (mr 138)) (hj : (jc = 6 ∧ jm = 4 ∧ ∃ n, n ≤ 99 ∧ v = o32 n) ∨ (jc = 7 ∧ jm = 5 ∧ ∃ n, n ≤ 999 ∧ v = o32 n) ∨ (jc = 8 ∧ jm = 6 ∧ ∃ n, n < 100 ∧ ¬ n % 10 = 0 ∧ v = o32 n)) : SC k (mput m (cw k 1) jc v) (mput mr 138 jm v 138) := by
  have ew : ∀ z, mput mr 138 jm v 138 z = if z = jm then v else mr 138 z := fun z => by
    rw [mput_get]
    simp only [true_and]
  have c1 : ∀ j, mput m (cw k 1) jc v (cw k 1) j = if j = jc then v else m (cw k 1) j := fun j => by
    rw [mput_get]
    simp only [true_and]
  have c2 : ∀ j, mput m (cw k 1) jc v (cw k 2) j = m (cw k 2) j := fun j => by rw [mput_c _ _ _ (cw_ne (by omega))]
  obtain ⟨s1, s2, s3, s4, s5, s6, s7, s8, s9⟩ := h
  unfold SC
  simp only [ew, c1, c2]
  rcases hj with ⟨rfl, rfl, n, n1, rfl⟩ | ⟨rfl, rfl, n, n1, rfl⟩ | ⟨rfl, rfl, n, n1, n2, rfl⟩
  · exact ⟨s1, s2, s3, s4, ⟨n, n1, rfl, rfl⟩, s6, s7, s8, s9⟩
  · exact ⟨s1, s2, s3, s4, s5, ⟨n, n1, rfl, rfl⟩, s7, s8, s9⟩
  · exact ⟨s1, s2, s3, s4, s5, s6, ⟨n, n1, n2, rfl, rfl⟩, s8, s9⟩
theorem rule_o {mc mr : Mem} (h : RLx mc mr) (x y : Int32) : Sm (fX8_rule x y mc) (fX9_rule x y mr) := by
  have hh := h
  obtain ⟨⟨r, al, f, q, w⟩, _⟩ := h
  have S := WS_7 w
  have set : ∀ (jc jm : Nat) (v : Int32), ((jc = 6 ∧ jm = 4 ∧ ∃ n, n ≤ 99 ∧ v = o32 n) ∨ (jc = 7 ∧ jm = 5 ∧ ∃ n, n ≤ 999 ∧ v = o32 n) ∨ (jc = 8 ∧ jm = 6 ∧ ∃ n, n < 100 ∧ ¬ n % 10 = 0 ∧ v = o32 n)) → RLx (mput mc (cw 0 1) jc v) (mput mr 138 jm v) := fun jc jm v hj => RL_k hh ⟨r, al, f, q, WS_scal w (by omega) (by omega) (by omega) (by omega) (SC_put S hj)⟩ (CK_CF (CF_put (by omega) (by omega))) (MK_MF (MF_put (by omega)))
  unfold fX8_rule fX9_rule bX8_rule_114 bX9_rule_57
  rw [wi_eq, wi_eq, wi_eq, if_pos rfl, if_neg one0]
  by_cases x0 : x = 0
  · rw [if_pos x0, if_pos x0, x0]
    rcases win (l := 0) (h := 99) (by omega) (by omega) y with z | ⟨n, _, n2, n3, n4⟩
    · rw [if_pos (show fX9_within y 0 99 = 0 from z), if_pos (show fX9_within y 0 99 = 0 from z)]
      exact err1 hh
    · have z : ¬ fX9_within y 0 99 = 0 := by rw [show fX9_within y 0 99 = 1 from n4]; exact one0
      rw [if_neg z, if_neg z, show fX9_comes (4 + 0) y mr = _ from comes_op (j := 4) (by omega), rate_eq S]
      exact ⟨_, _, _, rfl, rfl, set 6 4 y (.inl ⟨rfl, rfl, n, n2, n3⟩)⟩
  · rw [if_neg x0, if_neg x0]
    by_cases x1 : x = 1
    · rw [if_pos x1, if_pos x1, x1]
      rcases win (l := 0) (h := 999) (by omega) (by omega) y with z | ⟨n, _, n2, n3, n4⟩
      · rw [if_pos (show fX9_within y 0 999 = 0 from z), if_pos (show fX9_within y 0 999 = 0 from z)]
        exact err1 hh
      · have z : ¬ fX9_within y 0 999 = 0 := by rw [show fX9_within y 0 999 = 1 from n4]; exact one0
        rw [if_neg z, if_neg z, show fX9_comes (4 + 1) y mr = _ from comes_op (j := 5) (by omega), dryn_eq S]
        exact ⟨_, _, _, rfl, rfl, set 7 5 y (.inr (.inl ⟨rfl, rfl, n, n2, n3⟩))⟩
    · rw [if_neg x1, if_neg x1]
      by_cases x2 : x = 2
      · rw [if_pos x2, if_pos x2, x2]
        rcases win (l := 1) (h := 99) (by omega) (by omega) y with z | ⟨n, n1, n2, n3, n4⟩
        · rw [if_pos (show fX9_within y 1 99 = 0 from z), if_pos (show fX9_within y 1 99 = 0 from z)]
          exact err1 hh
        · have z : ¬ fX9_within y 1 99 = 0 := by rw [show fX9_within y 1 99 = 1 from n4]; exact one0
          have e : y - y / 10 * 10 = o32 (n % 10) := by rw [n3]; exact o_rem (b := 10) (by omega) (by omega) (by omega)
          rw [if_neg z, if_neg z, e]
          by_cases c : n % 10 = 0
          · rw [if_pos (by rw [c]; rfl), if_pos (by rw [c]; decide)]
            exact err1 hh
          · obtain ⟨p, p1, p2, p3, p4⟩ := S.2.2.2.2.2.2.1
            rw [if_neg (by rw [show (0 : Int32) = o32 0 from rfl, o_eq (by omega) (by omega)]; exact c), if_neg (by rw [show (0 : Int32) = o32 0 from rfl, o_le (by omega) (by omega)]; omega), show fX9_comes (4 + 2) y mr = _ from comes_op (j := 6) (by omega), p3, p4]
            exact ⟨_, _, _, rfl, rfl, set 8 6 y (.inr (.inr ⟨rfl, rfl, n, by omega, c, n3⟩))⟩
      · rw [if_neg x2, if_neg x2]
        exact err1 hh
theorem tick_o {mc mr : Mem} (h : RLx mc mr) (x : Int32) : Sm (fX8_tick x mc) (fX9_tick x mr) := by
  have hh := h
  obtain ⟨⟨r, al, f, q, w⟩, _⟩ := h
  have S := WS_7 w
  unfold fX8_tick fX9_tick
  rw [wi_eq]
  rcases win (l := 1) (h := 60) (by omega) (by omega) x with z | ⟨n, n1, n2, n3, n4⟩
  · rw [if_pos (show fX9_within x 1 60 = 0 from z), if_pos (show fX9_within x 1 60 = 0 from z)]
    exact err1 hh
  · have z : ¬ fX9_within x 1 60 = 0 := by rw [show fX9_within x 1 60 = 1 from n4]; exact one0
    obtain ⟨t, t1, t2, t3⟩ := S.2.2.2.2.2.2.2.1
    rw [if_neg z, if_neg z, t2, t3, n3, o_add]
    by_cases c : t + n ≤ 9999
    · rw [if_pos (by rw [show (9999 : Int32) = o32 9999 from rfl, o_le (by omega) (by omega)]; exact c), if_pos (by rw [show (9999 : Int32) = o32 9999 from rfl, o_le (by omega) (by omega)]; exact c)]
      obtain ⟨e, g, e1, e2, e3, e4⟩ := lp_two (bs := lX8_tick_39 (o32 n)) (bt := lX9_tick_40 (o32 n)) (fun i s u => s.1 = o32 i ∧ u.1 = o32 i ∧ WR 0 s.2 (u.2 138) ∧ CF 0 mc s.2 ∧ MF mr u.2 ∧ u.2 138 0 = o32 (t + i)) (fun e g => e.1 = g.1 ∧ RLx e.2 g.2) n 0 (0, mc) (0, mr) fu fu ⟨rfl, rfl, ⟨r, al, f, q, w⟩, CF_rf, MF_rf, t2⟩ (fun i s u _ hi hJ => by
        obtain ⟨j1, j2, j3, j4, j5, j6⟩ := hJ
        obtain ⟨m', mr', g1, g2, g3, g4, g5, g6⟩ := goOn_R j3 (by omega) j6
        unfold lX8_tick_39 lX9_tick_40
        rw [j1, j2, if_neg (by rw [o_le (by omega) (by omega)]; omega), if_neg (by rw [o_le (by omega) (by omega)]; omega), g1, g2, o_s]
        exact ⟨_, _, rfl, rfl, rfl, rfl, g3, CF_tr j4 g4, MF_tr j5 g5, g6⟩) (fun s u hJ => by
        obtain ⟨j1, j2, j3, j4, j5, j6⟩ := hJ
        obtain ⟨N, _, k1, k2⟩ := many_R j3
        rw [Nat.zero_add] at j1 j2
        unfold lX8_tick_39 lX9_tick_40
        rw [j1, j2, if_pos (by rw [o_le (by omega) (by omega)]; omega), if_pos (by rw [o_le (by omega) (by omega)]; omega), k1, k2]
        exact ⟨_, _, rfl, rfl, rfl, RL_k hh j3 (CK_CF j4) (MK_MF j5)⟩) (lt_fu (by omega)) (lt_fu (by omega))
      obtain ⟨v, m'⟩ := e
      obtain ⟨v', mr'⟩ := g
      dsimp only at e3 e4
      subst e3
      exact ⟨v, m', mr', e1, e2, e4⟩
    · rw [if_neg (by rw [show (9999 : Int32) = o32 9999 from rfl, o_le (by omega) (by omega)]; exact c), if_neg (by rw [show (9999 : Int32) = o32 9999 from rfl, o_le (by omega) (by omega)]; exact c)]
      exact err3 hh
theorem cnt_tab : ∀ N, N ≤ 16 → cnt (fun b => decide (b < N)) 16 = N := by decide +kernel
theorem foam_o {mc mr : Mem} (h : RLx mc mr) (x y g : Int32) : Sm (fX8_foam x y g mc) (fX9_foam x y g mr) := by
  have hh := h
  obtain ⟨⟨r, al, f, q, w⟩, _⟩ := h
  have S := WS_7 w
  have b1 : ∀ z, RLx mc mr → (fX9_within x 1 4 = 0 ∨ fX9_within y 1 4 = 0 ∨ fX9_within g 0 99999 = 0) → z = bX9_foam_28 mr → fX9_foam x y g mr = z := fun z _ hz e => by
    unfold fX9_foam
    rw [e]
    rcases hz with hz | hz | hz
    · rw [if_pos hz]
    · rw [if_pos hz]; split <;> rfl
    · rw [if_pos hz]; split <;> (try rfl) <;> split <;> rfl
  have bad : (fX9_within x 1 4 = 0 ∨ fX9_within y 1 4 = 0 ∨ fX9_within g 0 99999 = 0) → Sm (fX8_foam x y g mc) (fX9_foam x y g mr) := fun hz => by
    rw [b1 _ hh hz rfl]
    have e : fX8_foam x y g mc = bX8_foam_28 mc := by
      unfold fX8_foam
      rw [wi_eq, wi_eq, wi_eq]
      rcases hz with hz | hz | hz
      · rw [if_pos hz]
      · rw [if_pos hz]; split <;> rfl
      · rw [if_pos hz]; split <;> (try rfl) <;> split <;> rfl
    rw [e]
    exact err1 hh
  rcases win (l := 1) (h := 4) (by omega) (by omega) x with z | ⟨W, w1, w2, w3, w4⟩
  · exact bad (.inl z)
  · rcases win (l := 1) (h := 4) (by omega) (by omega) y with z | ⟨H, h1, h2, h3, h4⟩
    · exact bad (.inr (.inl z))
    · rcases win (l := 0) (h := 99999) (by omega) (by omega) g with z | ⟨G, _, g2, g3, g4⟩
      · exact bad (.inr (.inr z))
      · subst w3
        subst h3
        subst g3
        have i4 : ¬ fX9_within (o32 G) 0 99999 = 0 := by rw [show fX9_within (o32 G) 0 99999 = 1 from g4]; exact one0
        have iw : ¬ fX9_within (o32 W) 1 4 = 0 := by rw [show fX9_within (o32 W) 1 4 = 1 from w4]; exact one0
        have ih : ¬ fX9_within (o32 H) 1 4 = 0 := by rw [show fX9_within (o32 H) 1 4 = 1 from h4]; exact one0
        obtain ⟨mr', e2, f1, f2, f3, f4, f5⟩ := foam_s (m := mr) (g := o32 G) w1 w2 h1 h2 i4
        obtain ⟨m1, e1, c1, c2, c3, c4, c5, c6⟩ := make_c (k := 0) (m := mc) (g := o32 G) w1 w2 h1 h2
        have FG := foam_Gr w1 w2 h1 h2
        have hwh : W * H ≤ 16 := Nat.mul_le_mul w2 h2
        generalize hM : mput (mput m1 (cw 0 1) 10 0) (cw 0 1) 11 0 = m2
        have g1 : ∀ c j, c ≠ cw 0 1 → m2 c j = m1 c j := fun c j hc => by rw [← hM, mput_c _ _ _ hc, mput_c _ _ _ hc]
        have gw : ∀ j, m2 (cw 0 1) j = if j = 11 then 0 else if j = 10 then 0 else mc (cw 0 1) j := fun j => by
          rw [← hM, mput_get, mput_get, c6 _ _ (cw_ne (by omega)) (fun q _ _ _ => cw_ne (by omega))]
          simp only [true_and]
        have far : ∀ o j, o ≠ 1 → o ≠ 2 → ¬ (3 ≤ o ∧ o ≤ 24 ∧ o ≠ 8) → m2 (cw 0 o) j = mc (cw 0 o) j := fun o j o1 o2 o3 => by
          rw [g1 _ _ (cw_ne o1), c6 _ _ (cw_ne o2) (fun q q1 q2 q3 => cw_ne (by omega))]
        have W2 : WS 0 m2 (mr' 138) (R0 W H) (A0 W H) (fun b j => if j = 2 then G else if j = 4 then b / W else 0) q := by
          refine ⟨FG.1, FG.2.1, f1, CS_same c1 (fun c j hc => g1 c j (fun z => ?_)), fun b hb ab j j1 j4 => ?_, fun u hu => TR_same hu (WS_6 w u hu) (fun o j ho => far o j (by omega) (by omega) (by omega)) (fun j hj => f5 138 j (by omega)), ?_, TP_same (WS_8 w) (fun o j ho => ?_) (fun j hj => f5 138 j (by omega))⟩
          · rcases hc with hc | hc | ⟨v, hv, hc⟩
            · exact cw_ne (by omega) (hc.1.symm.trans z)
            · exact cw_ne (by omega) (hc.symm.trans z)
            · exact cw_ne (by omega) (hc.symm.trans z)
          · have bN : b < W * H := of_decide_eq_true ab
            have bd : b / W ≤ 3 := by
              have : b / W < H := Nat.div_lt_of_lt_mul bN
              omega
            obtain ⟨p1, p2, p3, p4⟩ := f2 b hb bN
            obtain ⟨q1, q2, q3, q4⟩ := c2 b hb bN
            rw [g1 _ _ (cw_ne (by omega))]
            match j, j1, j4 with
            | 1, _, _ => exact ⟨p1, q1, Nat.zero_le _⟩
            | 2, _, _ => exact ⟨p2, q2, g2⟩
            | 3, _, _ => exact ⟨p3, q3, Nat.zero_le _⟩
            | 4, _, _ => exact ⟨p4, q4, bd⟩
            | 0, j1, _ => exact absurd j1 (by omega)
            | j + 5, _, j4 => exact absurd j4 (by omega)
          · obtain ⟨s1, s2, s3, s4, s5, s6, s7, s8, s9⟩ := S
            unfold SC
            rw [g1 (cw 0 2) 6 (cw_ne (by omega)), g1 (cw 0 2) 7 (cw_ne (by omega)), g1 (cw 0 2) 8 (cw_ne (by omega)), c3, c4, c5, f4 8 (by omega) (by omega), f4 9 (by omega) (by omega), f4 10 (by omega) (by omega), f4 7 (by omega) (by omega), f3, f5 138 3 (by omega), f5 138 4 (by omega), f5 138 5 (by omega), f5 138 6 (by omega)]
            simp only [gw]
            exact ⟨trivial, trivial, trivial, s4, s5, s6, s7, ⟨0, by omega, rfl, rfl⟩, ⟨0, by omega, rfl, rfl⟩⟩
          · rcases ho with ⟨rfl, ho⟩ | ho | ho
            · rw [gw, if_neg (by omega), if_neg (by omega)]
            · exact far o j (by omega) (by omega) (by omega)
            · exact far o j (by omega) (by omega) (by omega)
        have e3 : fX8_foam (o32 W) (o32 H) (o32 G) mc = some (o32 (W * H), m2) := by
          unfold fX8_foam fX7_startAnew
          rw [wi_eq, wi_eq, wi_eq, if_neg iw, if_neg ih, if_neg i4, e1, Option.bind_some, hM, Option.bind_some, howMany_s (WS_4 W2)]
          have e : cnt (A0 W H) 16 = W * H := cnt_tab (W * H) hwh
          rw [e]
        refine ⟨_, _, _, e3, e2, RL_k hh ⟨_, _, _, _, W2⟩ (fun c j hc => ?_) (fun c j hc => f5 c j (by omega))⟩
        have n1 : ∀ o, 1 ≤ o → o ≤ 39 → c ≠ cw 0 o := fun o o1 o2 => by unfold cw; omega
        rw [g1 _ _ (n1 1 (by omega) (by omega)), c6 _ _ (n1 2 (by omega) (by omega)) (fun q q1 q2 _ => n1 q (by omega) (by omega))]
end
section
/-! THE MODEL'S BITS; MARKED; WHAT IS COUNTED -/
theorem kbF : ∀ (i n : Nat), ¬ n = 0 → n < 2 ^ i → pcF i (n &&& (n - 1)) + 1 = pcF i n
  | 0, n, h, hl => absurd hl (by rw [Nat.pow_zero]; omega)
  | i + 1, n, h, hl => by
    show (n &&& (n - 1)) % 2 + pcF i ((n &&& (n - 1)) / 2) + 1 = n % 2 + pcF i (n / 2)
    have m0 : (n &&& (n - 1)) % 2 = 0 := by
      rcases Nat.mod_two_eq_zero_or_one (n &&& (n - 1)) with e | e
      · exact e
      · have e := Nat.and_mod_two_eq_one.mp e
        omega
    rw [Nat.and_div_two, m0]
    rw [Nat.pow_succ] at hl
    rcases Nat.mod_two_eq_zero_or_one n with e | e
    · have ih := kbF i (n / 2) (by omega) (by omega)
      rw [show (n - 1) / 2 = n / 2 - 1 by omega, e]
      omega
    · rw [show (n - 1) / 2 = n / 2 by omega, Nat.and_self, e]
      omega
theorem kb_ok {n : Nat} (h : n < 65536) (h0 : 0 < n) : pc (n &&& (n - 1)) + 1 = pc n := by
  rw [← pc_F, ← pc_F]
  exact kbF 16 n (by omega) h
theorem pc_0 {n : Nat} (h : n < 65536) (h0 : pc n = 0) : n = 0 := by
  by_cases e : n = 0
  · exact e
  · have := kb_ok h (by omega)
    omega
theorem bits_s {n : Nat} (h : n < 65536) : fX9_bits (o32 n) = some (o32 (pc n)) := by
  unfold fX9_bits
  have go : ∀ d c n z, n < 65536 → pc n = d → d < z → lp lX9_bits_4 z (o32 c, o32 n) = some (o32 (c + d)) := by
    intro d
    induction d with
    | zero =>
      intro c n z hn hd hz
      obtain ⟨z, rfl⟩ : ∃ y, z = y + 1 := ⟨z - 1, by omega⟩
      have e := pc_0 hn hd
      subst e
      exact lp_e (by unfold lX9_bits_4; rw [if_pos (show (o32 c, o32 0).2 = 0 from rfl)]; rfl)
    | succ d ih =>
      intro c n z hn hd hz
      obtain ⟨z, rfl⟩ : ∃ y, z = y + 1 := ⟨z - 1, by omega⟩
      have n0 : 0 < n := by
        by_cases e : n = 0
        · subst e
          have : pc 0 = 0 := by decide
          omega
        · omega
      have hk := kb_ok hn n0
      have e1 : lX9_bits_4 (o32 c, o32 n) = some (.inl (o32 (c + 1), o32 (n &&& (n - 1)))) := by
        unfold lX9_bits_4
        dsimp only
        rw [if_neg (by rw [show (0 : Int32) = o32 0 from rfl, o_eq (by omega) (by omega)]; omega), o_s, show o32 n - 1 = o32 (n - 1) from o_sub (b := 1) (by omega) (by omega), o_and]
      rw [lp_i e1, ih (c + 1) (n &&& (n - 1)) z (Nat.lt_of_le_of_lt Nat.and_le_left hn) (by omega) (by omega), show c + 1 + d = c + (d + 1) by omega]
  have := go (pc n) 0 n fu h rfl (by have := pc_le n; exact lt_fu (by omega))
  rw [Nat.zero_add] at this
  exact this
theorem there_s {mr : Mem} {r : Nat → List Nat} {al : Nat → Bool} (h : RS mr r al) : ∃ n, n < 65536 ∧ fX9_there mr = some (o32 n) ∧ ∀ x, x < 16 → n.testBit x = al x := by
  unfold fX9_there
  have key := lp_ix (body := lX9_there_4 mr) (fun i s => s.2 = o32 i ∧ ∃ n, n < 65536 ∧ s.1 = o32 n ∧ ∀ x, x < 16 → n.testBit x = (al x && decide (x < i))) (fun e => ∃ n, n < 65536 ∧ e = o32 n ∧ ∀ x, x < 16 → n.testBit x = al x) 16 0 ((0 : Int32), (0 : Int32)) fu ⟨rfl, 0, by omega, rfl, fun x _ => by simp⟩ (fun i s _ hi hI => ?_) (fun s hI => ?_) (lt_fu (by omega))
  · obtain ⟨e, e1, n, e2, e3, e4⟩ := key
    exact ⟨n, e2, by rw [e1, e3], e4⟩
  · obtain ⟨i1, n, i2, i3, i4⟩ := hI
    have hi : i < 16 := by omega
    unfold lX9_there_4
    rw [i1, i3, if_neg (not_16 hi), is_s hi h, Option.bind_some]
    have step : ∀ x, x < 16 → x ≠ i → (al x && decide (x < i)) = (al x && decide (x < i + 1)) := fun x _ hx => by
      by_cases c : x < i
      · rw [decide_eq_true c, decide_eq_true (by omega)]
      · rw [decide_eq_false c, decide_eq_false (by omega)]
    cases ai : al i with
    | false =>
      rw [if_pos (show i01 false = 0 from rfl), show o32 n ||| 0 = o32 (n ||| 0) from o_or n 0, Nat.or_zero, o_s]
      refine ⟨_, rfl, rfl, n, i2, rfl, fun x hx => ?_⟩
      rw [i4 x hx]
      by_cases e : x = i
      · rw [e, ai]; rfl
      · exact step x hx e
    | true =>
      have sb := set_bit i2 hi
      rw [if_neg (show ¬ i01 true = 0 by decide), shl_tab i (by omega), o_or, o_s]
      refine ⟨_, rfl, rfl, _, sb.1, rfl, fun x hx => ?_⟩
      rw [sb.2, i4 x hx]
      by_cases e : x = i
      · rw [e, ai, decide_eq_true rfl, Bool.or_true, decide_eq_true (by omega)]
        rfl
      · rw [decide_eq_false e, Bool.or_false]
        exact step x hx e
  · obtain ⟨i1, n, i2, i3, i4⟩ := hI
    unfold lX9_there_4
    rw [i1, i3, if_pos (by decide)]
    exact ⟨_, rfl, n, i2, rfl, fun x hx => by rw [i4 x hx, decide_eq_true (by omega), Bool.and_true]⟩
theorem besides_s {m : Mem} {r : Nat → List Nat} {al : Nat → Bool} {b : Nat} (hs : RS m r al) (hg : Gr r al) (hb : b < 16) (alb : al b = true) : ∃ n, n < 65536 ∧ fX9_besides (o32 b) m = some (o32 n) ∧ ∀ x, x < 16 → n.testBit x = decide (x ∈ r b) := by
  have g := (hs b hb).2 alb
  have lb := g.1
  unfold fX9_besides
  have key := lp_ix (body := lX9_besides_4 (o32 b) m) (fun i s => s.2 = o32 i ∧ ∃ n, n < 65536 ∧ s.1 = o32 n ∧ ∀ x, x < 16 → n.testBit x = decide (x ∈ (r b).take i)) (fun e => ∃ n, n < 65536 ∧ e = o32 n ∧ ∀ x, x < 16 → n.testBit x = decide (x ∈ r b)) (r b).length 0 ((0 : Int32), (0 : Int32)) fu ⟨rfl, 0, by omega, rfl, fun x _ => by simp⟩ (fun i s _ hi hI => ?_) (fun s hI => ?_) (lt_fu (by omega))
  · obtain ⟨e, e1, n, e2, e3, e4⟩ := key
    exact ⟨n, e2, by rw [e1, e3], e4⟩
  · obtain ⟨i1, n, i2, i3, i4⟩ := hI
    have hi : i < (r b).length := by omega
    have px := hg.1 b hb alb _ (List.getElem_mem hi)
    unfold lX9_besides_4
    rw [sd_o hb, g.2.1, Option.bind_some, i1, i3, if_neg (by rw [o_le (by omega) (by omega)]; omega), rg_o hb (by omega), Option.bind_some, g.2.2.2 i hi]
    have tk := tk1 hi
    generalize (r b)[i] = x at px tk
    by_cases e : x = 16
    · rw [e, if_pos (show o32 16 = 16 from rfl), show o32 n ||| 0 = o32 (n ||| 0) from o_or n 0, Nat.or_zero, o_s]
      refine ⟨_, rfl, rfl, n, i2, rfl, fun y hy => ?_⟩
      rw [i4 y hy, tk]
      by_cases hm : y ∈ (r b).take i
      · rw [decide_eq_true hm, decide_eq_true (List.mem_append_left _ hm)]
      · rw [decide_eq_false hm, decide_eq_false (fun z => by
          rcases List.mem_append.mp z with z | z
          · exact hm z
          · have := List.mem_singleton.mp z; omega)]
    · have hx : x < 16 := by omega
      have sb := set_bit i2 hx
      rw [if_neg (fun z => e ((e16 px.1).mp z)), shl_tab x (by omega), o_or, o_s]
      refine ⟨_, rfl, rfl, _, sb.1, rfl, fun y hy => ?_⟩
      rw [sb.2, i4 y hy, tk]
      by_cases hm : y ∈ (r b).take i
      · rw [decide_eq_true hm, Bool.true_or, decide_eq_true (List.mem_append_left _ hm)]
      · rw [decide_eq_false hm, Bool.false_or]
        by_cases e2 : y = x
        · rw [decide_eq_true e2, decide_eq_true (List.mem_append_right _ (List.mem_singleton.mpr e2))]
        · rw [decide_eq_false e2, decide_eq_false (fun z => by
            rcases List.mem_append.mp z with z | z
            · exact hm z
            · exact e2 (List.mem_singleton.mp z))]
  · obtain ⟨i1, n, i2, i3, i4⟩ := hI
    rw [Nat.zero_add] at i1 i4
    rw [List.take_length] at i4
    unfold lX9_besides_4
    rw [sd_o hb, g.2.1, Option.bind_some, i1, i3, if_pos (by rw [o_le (by omega) (by omega)]; omega)]
    exact ⟨_, rfl, n, i2, rfl, i4⟩
theorem pc_add {n i : Nat} (hi : i < 16) (h : n.testBit i = false) : pc (n ||| 2 ^ i) = pc n + 1 := by
  have e := sum_upd (f := fun x => if n.testBit x then 1 else 0) (g := fun x => if (n ||| 2 ^ i).testBit x then 1 else 0) (b := i) 16 hi (fun x hx => by
    rw [Nat.testBit_or, Nat.testBit_two_pow, show decide (i = x) = false from decide_eq_false (fun z => hx z.symm), Bool.or_false])
  rw [h, Nat.testBit_or, Nat.testBit_two_pow, decide_eq_true rfl, Bool.or_true, if_neg (show ¬ false = true by decide), if_pos rfl, Nat.add_zero] at e
  unfold pc
  exact e
theorem marked_o {mc mr : Mem} (h : RLx mc mr) (x : Int32) : Sm (fX8_marked x mc) (fX9_marked x mr) := by
  have hh := h
  obtain ⟨⟨r, al, f, q, w⟩, _⟩ := h
  unfold fX8_marked fX9_marked
  rw [wi_eq]
  by_cases z : fX9_within x 0 2 = 0
  · rw [if_pos z, if_pos z]
    exact err1 hh
  · rw [if_neg z, if_neg z]
    obtain ⟨e, g, e1, e2, e3, e4⟩ := lp_two (bs := lX8_marked_25 x) (bt := lX9_marked_23 x) (fun i s t => s.2.2.2.1 = o32 i ∧ t.2.2.1 = o32 i ∧ (∃ n, n < 65536 ∧ s.1 = o32 (pc n) ∧ s.2.1 = o32 n ∧ t.1 = o32 n ∧ ∀ y, i ≤ y → y < 16 → n.testBit y = false) ∧ s.2.2.1 = t.2.1 ∧ WS 0 s.2.2.2.2 (t.2.2.2 138) r al f q ∧ NF 0 mc s.2.2.2.2 ∧ F146 mr t.2.2.2) (fun e g => e.1 = g.1 ∧ RLx e.2 g.2) 16 0 (0, 0, 0, 0, mc) (0, 0, 0, mr) fu fu ⟨rfl, rfl, ⟨0, by omega, rfl, rfl, rfl, fun y _ _ => Nat.zero_testBit y⟩, rfl, w, NF_rf, F146_rf⟩ (fun i s t _ hi hJ => by
      obtain ⟨j1, j2, ⟨n, n1, n2, n3, n4, n5⟩, j3, j4, j5, j6⟩ := hJ
      have hi : i < 16 := by omega
      unfold lX8_marked_25 lX9_marked_23
      rw [j1, j2, n2, n3, n4, j3, if_neg (not_16 hi), if_neg (not_16 hi), has_c (WS_4 j4) hi, is_s hi (WS_3 j4), Option.bind_some]
      have fin : ∀ v m1 mr1, WS 0 m1 (mr1 138) r al f q → NF 0 mc m1 → F146 mr mr1 → ∃ s' t', bX8_marked_60 x (o32 (pc n)) (o32 n) t.2.1 (o32 i) v m1 = some (.inl s') ∧ bX9_marked_49 x (o32 n) t.2.1 (o32 i) v mr1 = some (.inl t') ∧ s'.2.2.2.1 = o32 (i + 1) ∧ t'.2.2.1 = o32 (i + 1) ∧ (∃ n, n < 65536 ∧ s'.1 = o32 (pc n) ∧ s'.2.1 = o32 n ∧ t'.1 = o32 n ∧ ∀ y, i + 1 ≤ y → y < 16 → n.testBit y = false) ∧ s'.2.2.1 = t'.2.1 ∧ WS 0 s'.2.2.2.2 (t'.2.2.2 138) r al f q ∧ NF 0 mc s'.2.2.2.2 ∧ F146 mr t'.2.2.2 := fun v m1 mr1 k1 k2 k3 => by
        unfold bX8_marked_60 bX9_marked_49
        by_cases v0 : v = 0
        · rw [if_pos v0, if_pos v0, v0, show o32 n ||| 0 = o32 (n ||| 0) from o_or n 0, Nat.or_zero, o_s]
          exact ⟨_, _, rfl, rfl, rfl, rfl, ⟨n, n1, rfl, rfl, rfl, fun y y1 y2 => n5 y (by omega) y2⟩, (Int32.add_zero _).symm, k1, k2, k3⟩
        · have sb := set_bit n1 hi
          rw [if_neg v0, if_neg v0, shl_tab i (by omega), o_or, o_s, o_s, ← pc_add hi (n5 i (Nat.le_refl _) hi)]
          exact ⟨_, _, rfl, rfl, rfl, rfl, ⟨_, sb.1, rfl, rfl, rfl, fun y y1 y2 => by rw [sb.2, n5 y (by omega) y2, decide_eq_false (by omega)]; rfl⟩, rfl, k1, k2, k3⟩
      cases ai : al i with
      | false =>
        rw [if_pos (show i01 false = 0 from rfl), if_pos (show i01 false = 0 from rfl)]
        exact fin 0 _ _ j4 j5 j6
      | true =>
        obtain ⟨v, m1, mr1, d1, d2, d3, d4⟩ := mark_R j4 hi ai
        rw [if_neg (show ¬ i01 true = 0 by decide), if_neg (show ¬ i01 true = 0 by decide), d1, d2, Option.bind_some, Option.bind_some]
        exact fin v m1 mr1 (WS_NF j4 d3 d4) (fun c j hc => (d3 c j hc).trans (j5 c j hc)) (fun c j h1 h2 => (d4 c j h1 h2).trans (j6 c j h1 h2))) (fun s t hJ => by
      obtain ⟨j1, j2, ⟨n, n1, n2, n3, n4, n5⟩, j3, j4, j5, j6⟩ := hJ
      have R := RL_k hh ⟨r, al, f, q, j4⟩ (CK_CF (NF_CF j5)) (MK_MF (F146_MF j6))
      unfold lX8_marked_25 lX9_marked_23
      rw [j1, j2, n2, n3, n4, j3, if_pos (show (16 : Int32) ≤ o32 (0 + 16) by decide), if_pos (show (16 : Int32) ≤ o32 (0 + 16) by decide), bits_s n1, Option.bind_some]
      by_cases x0 : x = 0
      · rw [if_pos x0, if_pos x0]
        exact ⟨_, _, rfl, rfl, rfl, R⟩
      · rw [if_neg x0, if_neg x0]
        by_cases x1 : x = 1
        · rw [if_pos x1, if_pos x1]
          exact ⟨_, _, rfl, rfl, rfl, R⟩
        · rw [if_neg x1, if_neg x1]
          exact ⟨_, _, rfl, rfl, rfl, R⟩) (lt_fu (by omega)) (lt_fu (by omega))
    obtain ⟨v, m'⟩ := e
    obtain ⟨v', mr'⟩ := g
    dsimp only at e3 e4
    subst e3
    exact ⟨v, m', mr', e1, e2, e4⟩
end
section
/-! ACTS THAT TELL; WHAT WAITS -/
theorem lp_twi {S T E F : Type} {bs : S → Option (S ⊕ E)} {bt : T → Option (T ⊕ F)} (J : S → T → Prop) (μ : S → Nat) (Q : E → F → Prop) (st : ∀ s t, J s t → (∃ s' t', bs s = some (.inl s') ∧ bt t = some (.inl t') ∧ J s' t' ∧ μ s' < μ s) ∨ ∃ e f, bs s = some (.inr e) ∧ bt t = some (.inr f) ∧ Q e f) : ∀ (n n' : Nat) (s : S) (t : T), J s t → μ s < n → μ s < n' → ∃ e f, lp bs n s = some e ∧ lp bt n' t = some f ∧ Q e f
  | 0, _, _, _, _, h, _ => absurd h (by omega)
  | _ + 1, 0, _, _, _, _, h => absurd h (by omega)
  | n + 1, n' + 1, s, t, h, h1, h2 => by
    rcases st s t h with ⟨s', t', e1, e2, e3, e4⟩ | ⟨e, f, e1, e2, e3⟩
    · rw [lp_i e1, lp_i e2]
      exact lp_twi J μ Q st n n' s' t' e3 (by omega) (by omega)
    · rw [lp_e e1, lp_e e2]
      exact ⟨e, f, rfl, rfl, e3⟩
theorem Sm_of {a b : Option (Int32 × Mem)} (h : ∃ e g, a = some e ∧ b = some g ∧ e.1 = g.1 ∧ RLx e.2 g.2) : Sm a b := by
  obtain ⟨⟨v, m⟩, ⟨v', m'⟩, h1, h2, h3, h4⟩ := h
  dsimp only at h3 h4
  subst h3
  exact ⟨v, m, m', h1, h2, h4⟩
theorem pace_o {mc mr : Mem} (h : RLx mc mr) (x : Int32) : Sm (fX8_pace x mc) (fX9_pace x mr) := by
  have hh := h
  obtain ⟨⟨r, al, f, q, w⟩, _⟩ := h
  unfold fX8_pace fX9_pace
  rcases isb w x with ⟨a1, a2⟩ | ⟨a, a1, a2, a3, a4, a5⟩
  · rw [if_pos a1, a2, Option.bind_some, if_pos rfl]
    exact err1 hh
  · rw [a4, a5, if_neg one0, Option.bind_some, if_neg one0, a2, if_pos (o_inb a1 (by omega)), sd_c w a1 a3, sd_m w a1 a3, Option.bind_some, rate_eq (WS_7 w)]
    exact ⟨_, _, _, rfl, rfl, hh⟩
theorem sides_o {mc mr : Mem} (h : RLx mc mr) (x : Int32) : Sm (fX8_sides x mc) (fX9_sides x mr) := by
  have hh := h
  obtain ⟨⟨r, al, f, q, w⟩, _⟩ := h
  unfold fX8_sides fX9_sides
  rw [wi_eq]
  by_cases z : fX9_within x 0 60 = 0
  · rw [if_pos z, if_pos z]
    exact err1 hh
  · rw [if_neg z, if_neg z]
    apply Sm_of
    refine lp_two (bs := lX8_sides_20 x mc) (bt := lX9_sides_21 x mr) (fun i s t => s.2 = o32 i ∧ t.2 = o32 i ∧ s.1 = t.1) (fun e g => e.1 = g.1 ∧ RLx e.2 g.2) 16 0 (0, 0) (0, 0) fu fu ⟨rfl, rfl, rfl⟩ (fun i s t _ hi hJ => ?_) (fun s t hJ => ?_) (lt_fu (by omega)) (lt_fu (by omega))
    · obtain ⟨j1, j2, j3⟩ := hJ
      have hi : i < 16 := by omega
      unfold lX8_sides_20 lX9_sides_21
      rw [j1, j2, j3, if_neg (not_16 hi), if_neg (not_16 hi), has_c (WS_4 w) hi, is_s hi (WS_3 w), Option.bind_some]
      cases ai : al i with
      | false =>
        rw [if_pos (show i01 false = 0 from rfl), if_pos (show i01 false = 0 from rfl), o_s]
        exact ⟨_, _, rfl, rfl, rfl, rfl, (Int32.add_zero _).symm⟩
      | true =>
        rw [if_neg (show ¬ i01 true = 0 by decide), if_neg (show ¬ i01 true = 0 by decide), if_pos (o_inb hi (by omega)), sd_c w hi ai, sd_m w hi ai, Option.bind_some, o_s]
        by_cases c : o32 (r i).length = x
        · rw [if_pos c, if_pos c]
          exact ⟨_, _, rfl, rfl, rfl, rfl, rfl⟩
        · rw [if_neg c, if_neg c]
          exact ⟨_, _, rfl, rfl, rfl, rfl, (Int32.add_zero _).symm⟩
    · obtain ⟨j1, j2, j3⟩ := hJ
      unfold lX8_sides_20 lX9_sides_21
      rw [j1, j2, j3, if_pos (by decide), if_pos (by decide)]
      exact ⟨_, _, rfl, rfl, rfl, hh⟩
theorem all_o {mc mr : Mem} (h : RLx mc mr) (x : Int32) : Sm (fX8_all x mc) (fX9_all x mr) := by
  have hh := h
  obtain ⟨⟨r, al, f, q, w⟩, _⟩ := h
  unfold fX8_all fX9_all
  rcases win (l := 0) (h := 5) (by omega) (by omega) x with z | ⟨n, _, n2, n3, n4⟩
  · have ne : ∀ k, k ≤ 5 → ¬ x = o32 k := fun k hk e => by
      rw [e, within_o (by omega) (by omega) (by omega), if_pos (by omega)] at z
      exact absurd z (by decide)
    rw [if_pos (show fX9_within x 0 5 = 0 from z), if_neg (show ¬ x = 0 from ne 0 (by omega)), if_neg (show ¬ x = 1 from ne 1 (by omega)), if_neg (show ¬ x = 2 from ne 2 (by omega)), if_neg (show ¬ x = 3 from ne 3 (by omega)), if_neg (show ¬ x = 4 from ne 4 (by omega)), if_neg (show ¬ x = 5 from ne 5 (by omega))]
    exact err1 hh
  · have z : ¬ fX9_within x 0 5 = 0 := by rw [show fX9_within x 0 5 = 1 from n4]; exact one0
    rw [if_neg z]
    subst n3
    have sum : ∀ n, n < 2 → ∃ v, fX0_together_16 0 (cw 0 (4 + n)) mc = some v ∧ lp (lX9_all_20 (o32 n) mr) fu (0, 0) = some (v, mr) := fun n hn => by
      have nle : ¬ (2 : Int32) ≤ o32 n := by rw [show (2 : Int32) = o32 2 from rfl, o_le (by omega) (by omega)]; omega
      have key := lp_two (bs := lX0_together_16_4 0 (cw 0 (4 + n)) mc) (bt := lX9_all_20 (o32 n) mr) (fun i s t => s.2 = o32 i ∧ t.2 = o32 i ∧ s.1 = t.1) (fun e g => g = (e, mr)) 16 0 (0, 0) (0, 0) fu fu ⟨rfl, rfl, rfl⟩ (fun i s t _ hi hJ => ?_) (fun s t hJ => ?_) (lt_fu (by omega)) (lt_fu (by omega))
      · obtain ⟨e, g, e1, e2, e3⟩ := key
        exact ⟨e, e1, by rw [e2, e3]⟩
      · obtain ⟨j1, j2, j3⟩ := hJ
        have hi : i < 16 := by omega
        unfold lX0_together_16_4 lX9_all_20
        rw [j1, j2, j3, if_neg (not_16 hi), if_neg (not_16 hi), if_neg (not_16 hi), if_neg nle, has_c (WS_4 w) hi, is_s hi (WS_3 w), Option.bind_some]
        cases ai : al i with
        | false =>
          rw [if_pos (show i01 false = 0 from rfl), if_pos (show i01 false = 0 from rfl), o_s]
          exact ⟨_, _, rfl, rfl, rfl, rfl, (Int32.add_zero _).symm⟩
        | true =>
          have k2 := WS_5 w i hi ai (2 + n) (by omega) (by omega)
          rw [if_neg (show ¬ i01 true = 0 by decide), if_neg (show ¬ i01 true = 0 by decide), if_pos (o_inb hi (by omega)), o_tn (by omega), show (2 : Int32) + o32 n = o32 (2 + n) from o_add 2 n, of_o hi (by omega), Option.bind_some, k2.1, show mc (cw 0 (4 + n)) i = o32 (f i (2 + n)) by rw [show 4 + n = 2 + n + 2 by omega]; exact k2.2.1, o_s]
          exact ⟨_, _, rfl, rfl, rfl, rfl, rfl⟩
      · obtain ⟨j1, j2, j3⟩ := hJ
        unfold lX0_together_16_4 lX9_all_20
        rw [j1, j2, j3, if_pos (show (16 : Int32) ≤ o32 (0 + 16) by decide), if_pos (show (16 : Int32) ≤ o32 (0 + 16) by decide), if_neg nle]
        exact ⟨_, _, rfl, rfl, rfl⟩
    have num : ∀ n, 2 ≤ n → n ≤ 5 → lp (lX9_all_20 (o32 n) mr) fu (0, 0) = some (mr 138 (5 + n), mr) := fun n hn hn5 => by
      have le : (2 : Int32) ≤ o32 n := by rw [show (2 : Int32) = o32 2 from rfl, o_le (by omega) (by omega)]; omega
      refine lp_fwd (body := lX9_all_20 (o32 n) mr) 16 (fun i => (0, o32 i)) fu (fun i hi => ?_) ?_ (lt_fu (by omega))
      · unfold lX9_all_20
        dsimp only
        rw [if_neg (not_16 hi), if_pos le, o_s]
        rfl
      · unfold lX9_all_20
        dsimp only
        rw [if_pos (show (16 : Int32) ≤ o32 16 by decide), if_pos le, show (7 : Int32) + o32 n - 2 = o32 (5 + n) by
          rw [show (7 : Int32) + o32 n = o32 (7 + n) from o_add 7 n, show o32 (7 + n) - 2 = o32 (7 + n - 2) from o_sub (b := 2) (by omega) (by omega), show 7 + n - 2 = 5 + n by omega], if_pos (o_inb (by omega) (by omega)), o_tn (by omega)]
    obtain ⟨s1, s2, s3, _, _, _, _, _, d, _, d1, d2⟩ := WS_7 w
    match n, n2 with
    | 0, _ =>
      obtain ⟨v, v1, v2⟩ := sum 0 (by omega)
      rw [if_pos (show o32 0 = 0 from rfl), v2, show fX0_together_16 0 (cw 0 4) mc = _ from v1]
      exact ⟨_, _, _, rfl, rfl, hh⟩
    | 1, _ =>
      obtain ⟨v, v1, v2⟩ := sum 1 (by omega)
      rw [if_neg (by decide), if_pos (show o32 1 = 1 from rfl), v2, show fX0_together_16 0 (cw 0 5) mc = _ from v1]
      exact ⟨_, _, _, rfl, rfl, hh⟩
    | 2, _ =>
      rw [if_neg (by decide), if_neg (by decide), if_pos (by decide), num 2 (by omega) (by omega), d2, d1]
      exact ⟨_, _, _, rfl, rfl, hh⟩
    | 3, _ =>
      rw [if_neg (by decide), if_neg (by decide), if_neg (by decide), if_pos (by decide), num 3 (by omega) (by omega), s1]
      exact ⟨_, _, _, rfl, rfl, hh⟩
    | 4, _ =>
      rw [if_neg (by decide), if_neg (by decide), if_neg (by decide), if_neg (by decide), if_pos (by decide), num 4 (by omega) (by omega), s2]
      exact ⟨_, _, _, rfl, rfl, hh⟩
    | 5, _ =>
      rw [if_neg (by decide), if_neg (by decide), if_neg (by decide), if_neg (by decide), if_neg (by decide), if_pos (by decide), num 5 (by omega) (by omega), s3]
      exact ⟨_, _, _, rfl, rfl, hh⟩
    | n + 6, h => exact absurd h (by omega)
theorem told_o {mc mr : Mem} (h : RLx mc mr) (x : Int32) : Df (fX8_told x mc) (fX9_told x mr) := by
  unfold fX8_told fX9_told
  rw [wi_eq]
  rcases win (l := 1) (h := 6) (by omega) (by omega) x with z | ⟨n, n1, n2, n3, n4⟩
  · rw [if_pos (show fX9_within x 1 6 = 0 from z), if_pos (show fX9_within x 1 6 = 0 from z)]
    exact Sm_Df (err1 h)
  · have z : ¬ fX9_within x 1 6 = 0 := by rw [show fX9_within x 1 6 = 1 from n4]; exact one0
    rw [if_neg z, if_neg z, n3, if_pos (o_inb (by omega) (by omega)), if_pos (o_inb (by omega) (by omega))]
    exact ⟨_, _, _, _, rfl, rfl, h⟩
/-- what waits, and THE TAPE, changed alike -/
theorem WS_tp {k : Nat} {m m' mr mr' : Mem} {r : Nat → List Nat} {al : Nat → Bool} {f : Nat → Nat → Nat} {q : Nat → List Nat} (h : WS k m (mr 138) r al f q) (e : ∀ o j, rc k (cw k o) → ¬ (o = 1 ∧ (j = 3 ∨ j = 5)) → o ≠ 36 → o ≠ 37 → m' (cw k o) j = m (cw k o) j) (e2 : ∀ j, j ≠ 1 → j ≠ 2 → ¬ (812 ≤ j ∧ j < 896) → mr' 138 j = mr 138 j) (t : TP k m' (mr' 138)) : WS k m' (mr' 138) r al f q := by
  obtain ⟨a1, a2, a3, a4, a5, a6, a7, a8⟩ := h
  refine ⟨a1, a2, RS_w a3 (fun b hb g hg => e2 _ (by omega) (by omega) (by omega)), CS_same a4 (fun c z hc => ?_), FR_same a5 (fun o z h1 h2 => e o z ⟨o, rfl, by omega⟩ (by omega) (by omega) (by omega)) (fun z h1 h2 => e2 z (by omega) (by omega) (by omega)), fun u hu => TR_same hu (a6 u hu) (fun o z ho => e o z ⟨o, rfl, by omega⟩ (by omega) (by omega) (by omega)) (fun z hz => e2 z (by omega) (by omega) (by omega)), SC_same a7 (fun o z ho => e o z ⟨o, rfl, by omega⟩ (by omega) (by omega) (by omega)) (fun z h1 h2 h3 => e2 z h2 h3 (by omega)), t⟩
  rcases hc with hc | hc | ⟨x, hx, hc⟩
  · rw [hc.1]; exact e 2 z ⟨2, rfl, by omega⟩ (by omega) (by omega) (by omega)
  · rw [hc]; exact e 7 z ⟨7, rfl, by omega⟩ (by omega) (by omega) (by omega)
  · rw [hc]; exact e (9 + x) z ⟨9 + x, rfl, by omega⟩ (by omega) (by omega) (by omega)
theorem tell_o {mc mr : Mem} (h : RLx mc mr) (x : Int32) : Sm (fX8_tell x mc) (fX9_tell x mr) := by
  have hh := h
  obtain ⟨⟨r, al, f, q, w⟩, _⟩ := h
  obtain ⟨t1, t2, ⟨n, n1, n2, n3⟩, t4⟩ := WS_8 w
  unfold fX8_tell fX9_tell
  rw [n2, n3]
  by_cases c : n = 24
  · rw [if_neg (by rw [show (24 : Int32) = o32 24 from rfl, o_lt (by omega) (by omega)]; omega), if_pos (by rw [c]; rfl)]
    exact err4 hh
  · have e5 : ∀ v, mput mc (cw 0 37) n v (cw 0 1) 5 = o32 n := fun v => by rw [mput_c _ _ _ (cw_ne (by omega))]; exact n3
    have e2 : ∀ v, mput mr 138 (872 + n) v 138 2 = o32 n := fun v => by rw [mput_get, if_neg (by omega)]; exact n2
    have ne24 : ¬ o32 n = 24 := by rw [show (24 : Int32) = o32 24 from rfl, o_eq (by omega) (by omega)]; omega
    have lt24 : o32 n < 24 := by rw [show (24 : Int32) = o32 24 from rfl, o_lt (by omega) (by omega)]; omega
    rw [if_pos lt24, if_neg ne24, if_pos (o_inb (show n < 24 by omega) (by omega)), show (872 : Int32) + o32 n = o32 (872 + n) from o_add 872 n, if_pos (o_inb (by omega) (by omega)), o_tn (by omega), o_tn (by omega), e5, e2, mput_at, mput_at, o_s]
    refine ⟨_, _, _, rfl, rfl, RL_k hh ⟨r, al, f, q, WS_tp w (fun o j ho h1 h2 h3 => ?_) (fun j h1 h2 h3 => ?_) ⟨?_, fun i hi => ?_, ⟨n + 1, by omega, ?_, ?_⟩, fun i hi => ?_⟩⟩ (CK_CF (CF_tr (CF_put (by omega) (by omega)) (CF_put (by omega) (by omega)))) (MK_MF (MF_tr (MF_put (by omega)) (MF_put (by omega))))⟩
    · rw [mput_get, if_neg (fun z => h1 ⟨cw_inj z.1, .inr z.2⟩), mput_c _ _ _ (cw_ne h3)]
    · rw [mput_get, if_neg (by omega), mput_get, if_neg (by omega)]
    · rw [mput_get, if_neg (by omega), mput_get, if_neg (by omega), mput_j _ _ _ _ (by omega), mput_c _ _ _ (cw_ne (by omega))]
      exact t1
    · rw [mput_get, if_neg (by omega), mput_get, if_neg (by omega), mput_c _ _ _ (cw_ne (by omega)), mput_c _ _ _ (cw_ne (by omega))]
      exact t2 i hi
    · rw [mput_at]
    · rw [mput_at]
    · rw [mput_get, if_neg (by omega), mput_c _ _ _ (cw_ne (by omega)), mput_get, mput_get]
      by_cases e : i = n
      · rw [if_pos ⟨rfl, by omega⟩, if_pos ⟨rfl, e⟩]
      · rw [if_neg (by omega), if_neg (fun z => e z.2)]
        exact t4 i hi
end
section
/-! SHEETS -/
theorem RL_sh {mc mc' mr mr' : Mem} (h : RLx mc mr) (e1 : ∀ c j, ¬ (129 ≤ c ∧ c ≤ 135) → mc' c j = mc c j) (e2 : ∀ c j, ¬ (151 ≤ c ∧ c ≤ 154) → mr' c j = mr c j) (s : SHT mc' mr') : RLx mc' mr' := by
  obtain ⟨h1, h2, h3, h4, h5, h6⟩ := h
  have f2 : ∀ c, ¬ (151 ≤ c ∧ c ≤ 154) → mr' c = mr c := fun c hc => funext (fun j => e2 c j hc)
  refine ⟨?_, ?_, fun hz => ?_, s, ?_, ?_⟩
  · rw [f2 138 (by omega)]
    exact WR_off h1 (fun c j hc => e1 c j (by have := rc_le hc; omega))
  · rw [e1 0 8 (by omega), e2 137 3 (by omega)]; exact h2
  · rw [e1 0 8 (by omega)] at hz
    rw [f2 139 (by omega)]
    exact WR_off (h3 hz) (fun c j hc => e1 c j (by have := rc_le hc; omega))
  · rw [e1 125 1 (by omega)]; exact h5
  · rw [e2 137 19 (by omega)]; exact h6
theorem shb (x : Int32) : (fX4_isOne x = 0 ∧ fX9_isSheet x = some 0) ∨ ∃ s, s < 4 ∧ x = o32 s ∧ fX4_isOne x = 1 ∧ fX9_isSheet x = some 1 := by
  have e : fX4_isOne x = fX9_within x 0 3 := by
    unfold fX4_isOne fX9_within
    have q : (4 : Int32) ≤ x ↔ 3 < x := by
      rw [Int32.le_iff_toInt_le, Int32.lt_iff_toInt_lt]
      have a : (4 : Int32).toInt = 4 := by decide
      have b : (3 : Int32).toInt = 3 := by decide
      omega
    by_cases c1 : x < 0
    · rw [if_pos c1, if_pos c1]
    · rw [if_neg c1, if_neg c1]
      by_cases c2 : 3 < x
      · rw [if_pos (q.mpr c2), if_pos c2]
      · rw [if_neg (fun z => c2 (q.mp z)), if_neg c2]
  rw [e]
  unfold fX9_isSheet
  rcases win (l := 0) (h := 3) (by omega) (by omega) x with z | ⟨n, _, n2, n3, n4⟩
  · rw [show fX9_within x 0 3 = 0 from z, if_pos (.inl rfl)]
    exact .inl ⟨rfl, rfl⟩
  · rw [show fX9_within x 0 3 = 1 from n4, if_pos (.inr rfl)]
    exact .inr ⟨n, by omega, n3, rfl, rfl⟩
theorem fill24 (c : Nat) (x : Int32) (m : Mem) : fJ7_fill_53178_24 c x m = some (flM m c 24 x) := by
  unfold fJ7_fill_53178_24
  have st := lp_fwd (body := lJ7_fill_53178_24_5 c x 24) (e := flM m c 24 x) 24 (fun j => (o32 j, flM m c j x)) fu (fun j hj => ?_) ?_ (lt_fu (by omega))
  · rw [flM_0] at st
    exact st
  · unfold lJ7_fill_53178_24_5
    dsimp only
    rw [if_neg (by rw [show (24 : Int32) = o32 24 from rfl, o_le (by omega) (by omega)]; omega), if_pos (o_inb hj (by omega)), o_tn (by omega), o_s, flM_s]
  · unfold lJ7_fill_53178_24_5
    rfl
noncomputable def zrM (m : Mem) (a n : Nat) : Mem := fun c j => if c = 153 ∧ a ≤ j ∧ j < a + n then 0 else m c j
theorem zr_lp {m : Mem} {s : Nat} (hs : s < 4) : lp (lX9_sheet_93 (o32 s)) fu (0, m) = some (1, zrM m (24 * s) 24) := by
  have ei : ∀ i, (24 : Int32) * o32 s + o32 i = o32 (24 * s + i) := fun i => by
    show o32 24 * o32 s + o32 i = _
    rw [o_mul, o_add]
  have e0 : zrM m (24 * s) 0 = m := by
    funext c j
    unfold zrM
    rw [if_neg (by omega)]
  have st := lp_fwd (body := lX9_sheet_93 (o32 s)) (e := (1, zrM m (24 * s) 24)) 24 (fun i => (o32 i, zrM m (24 * s) i)) fu (fun i hi => ?_) ?_ (lt_fu (by omega))
  · rw [e0] at st
    exact st
  · unfold lX9_sheet_93
    dsimp only
    rw [if_neg (by rw [show (24 : Int32) = o32 24 from rfl, o_le (by omega) (by omega)]; omega), ei, if_pos (o_inb (by omega) (by omega)), o_tn (by omega), o_s]
    congr 3
    funext c j
    rw [mput_get]
    unfold zrM
    by_cases c1 : c = 153
    · subst c1
      simp only [true_and]
      (repeat' split) <;> first | rfl | (exfalso; omega)
    · simp only [c1, false_and, ↓reduceIte]
  · unfold lX9_sheet_93
    dsimp only
    rw [if_pos (show (24 : Int32) ≤ o32 24 by decide)]
theorem sheet_o {mc mr : Mem} (h : RLx mc mr) (x y z : Int32) : Sm (fX8_sheet x y z mc) (fX9_sheet x y z mr) := by
  have hh := h
  obtain ⟨_, _, _, hs, _⟩ := h
  unfold fX8_sheet fX9_sheet bX8_sheet_29 bX9_sheet_29
  rcases shb x with ⟨a1, a2⟩ | ⟨s, s1, s2, s3, s4⟩
  · rw [if_pos a1, a2, Option.bind_some, if_pos rfl]
    exact err1 hh
  · have is := o_inb s1 (show s < 2147483648 by omega)
    have ts : (o32 s).toNatClampNeg = s := o_tn (by omega)
    have go68 : ∀ t n, (t = 0 ∨ t = 8 ∨ t = 16 ∨ t = 32) → n ≤ 24 → y = o32 t → (y = 0 → n = 0) → (y ≠ 0 → z = o32 n) → Sm (bX8_sheet_65 (o32 s) y z mc) (bX9_sheet_68 (o32 s) y z mr) := fun t n ht hn hy h0 h1 => by
      have fin : Sm (bX8_sheet_80 (o32 s) y (o32 n) mc) (bX9_sheet_89 (o32 s) (o32 s) (o32 n) (mput mr 151 s y)) := by
        unfold bX8_sheet_80 bX9_sheet_89 fX4_lay
        rw [← s2, s3, if_neg one0, s2, if_pos is, if_pos is, if_pos is, if_pos is, ts, fill24, Option.bind_some, Option.bind_some, zr_lp s1]
        refine ⟨_, _, _, rfl, rfl, RL_sh hh (fun c j hc => ?_) (fun c j hc => ?_) (fun v hv => ?_)⟩
        · unfold flM
          rw [if_neg (by omega), mput_c _ _ _ (by omega), mput_c _ _ _ (by omega)]
        · unfold zrM
          rw [if_neg (by omega), mput_c _ _ _ (by omega), mput_c _ _ _ (by omega)]
        · obtain ⟨q1, q2, q3⟩ := hs v hv
          unfold flM zrM
          by_cases e : v = s
          · subst e
            refine ⟨⟨t, ht, ?_, ?_⟩, ⟨n, hn, ?_, ?_⟩, fun i hi => ?_⟩
            · rw [if_neg (by omega), mput_c _ _ _ (by omega), mput_at, hy]
            · rw [if_neg (by omega), mput_c _ _ _ (by omega), mput_at, hy]
            · rw [if_neg (by omega), mput_at]
            · rw [if_neg (by omega), mput_at]
            · rw [if_pos ⟨rfl, hi⟩, if_pos ⟨rfl, by omega, by omega⟩]
          · rw [if_neg (by omega), if_neg (by omega), if_neg (by omega), if_neg (by omega), mput_c _ _ _ (by omega), mput_j _ _ _ _ e, mput_c _ _ _ (by omega), mput_j _ _ _ _ e, mput_j _ _ _ _ e, mput_c _ _ _ (by omega), mput_j _ _ _ _ e, mput_c _ _ _ (by omega)]
            refine ⟨q1, q2, fun i hi => ?_⟩
            rw [if_neg (by omega), if_neg (by omega), mput_c _ _ _ (by omega), mput_c _ _ _ (by omega), mput_c _ _ _ (by omega), mput_c _ _ _ (by omega)]
            exact q3 i hi
      unfold bX8_sheet_65 bX9_sheet_68
      rw [if_pos is, ts]
      by_cases y0 : y = 0
      · rw [if_pos y0, if_pos y0]
        have := fin
        rw [h0 y0] at this
        exact this
      · rw [if_neg y0, if_neg y0, h1 y0]
        exact fin
    have go : ∀ t, (t = 0 ∨ t = 8 ∨ t = 16 ∨ t = 32) → y = o32 t → Sm (bX8_sheet_35 (o32 s) y z mc) (bX9_sheet_36 (o32 s) y z mr) := fun t ht hy => by
      unfold bX8_sheet_35 bX9_sheet_36 bX8_sheet_49 bX9_sheet_51
      by_cases y0 : y = 0
      · rw [if_pos y0, if_pos y0, if_pos y0, if_pos y0]
        exact go68 t 0 ht (by omega) hy (fun _ => rfl) (fun q => absurd y0 q)
      · rw [if_neg y0, if_neg y0]
        by_cases z0 : 0 ≤ z
        · rw [if_pos z0, if_pos z0, if_neg y0, if_neg y0]
          by_cases z24 : z ≤ 24
          · rw [if_pos z24, if_pos z24]
            rw [Int32.le_iff_toInt_le] at z0 z24
            have e0 : (0 : Int32).toInt = 0 := rfl
            have e24 : (24 : Int32).toInt = 24 := rfl
            exact go68 t z.toInt.toNat ht (by omega) hy (fun q => absurd q y0) (fun _ => i_eq (by omega) (by omega))
          · rw [if_neg z24, if_neg z24]
            exact err1 hh
        · rw [if_neg z0, if_neg z0, if_neg y0]
          exact err3 hh
    rw [s3, s4, if_neg one0, Option.bind_some, if_neg one0, s2]
    by_cases y0 : y = 0
    · rw [if_pos y0, if_pos y0]
      exact go 0 (by omega) y0
    · rw [if_neg y0, if_neg y0]
      by_cases y8 : y = 8
      · rw [if_pos y8, if_pos y8]
        exact go 8 (by omega) y8
      · rw [if_neg y8, if_neg y8]
        by_cases y16 : y = 16
        · rw [if_pos y16, if_pos y16]
          exact go 16 (by omega) y16
        · rw [if_neg y16, if_neg y16]
          by_cases y32 : y = 32
          · rw [if_pos y32, if_pos y32]
            exact go 32 (by omega) y32
          · rw [if_neg y32, if_neg y32]
            exact err1 hh
theorem rng {n : Nat} (hn : n < 100000) (y : Int32) : (∃ i, i < n ∧ y = o32 i ∧ ¬ y < 0 ∧ y < o32 n ∧ ¬ fX9_within y 0 (o32 n - 1) = 0) ∨ ((y < 0 ∨ ¬ y < o32 n) ∧ fX9_within y 0 (o32 n - 1) = 0) := by
  have e0 : (0 : Int32).toInt = 0 := by decide
  by_cases c : ∃ i, i < n ∧ y = o32 i
  · obtain ⟨i, i1, i2⟩ := c
    subst i2
    refine .inl ⟨i, i1, rfl, not_lt0 (by omega), by rw [o_lt (by omega) (by omega)]; exact i1, ?_⟩
    rw [show o32 n - 1 = o32 (n - 1) from o_sub (b := 1) (by omega) (by omega), show fX9_within (o32 i) 0 (o32 (n - 1)) = _ from within_o (l := 0) (by omega) (by omega) (by omega), if_pos (by omega)]
    decide
  · refine .inr ⟨?_, ?_⟩
    · by_cases y0 : y < 0
      · exact .inl y0
      · refine .inr (fun z => c ⟨y.toInt.toNat, ?_, ?_⟩)
        · rw [Int32.lt_iff_toInt_lt] at z y0
          rw [o_ti (by omega)] at z
          omega
        · rw [Int32.lt_iff_toInt_lt] at z y0
          rw [o_ti (by omega)] at z
          exact i_eq (by omega) (by omega)
    · by_cases l0 : n = 0
      · subst l0
        unfold fX9_within
        by_cases y0 : y < 0
        · rw [if_pos y0]
        · rw [if_neg y0, if_pos]
          rw [Int32.lt_iff_toInt_lt] at y0 ⊢
          have e1 : (o32 0 - 1 : Int32).toInt = -1 := by decide
          omega
      · rw [show o32 n - 1 = o32 (n - 1) from o_sub (b := 1) (by omega) (by omega)]
        rcases win (l := 0) (h := n - 1) (by omega) (by omega) y with z | ⟨i, _, n2, n3, _⟩
        · exact z
        · exact absurd ⟨i, by omega, n3⟩ c
theorem put_o {mc mr : Mem} (h : RLx mc mr) (x y z : Int32) : Sm (fX8_put x y z mc) (fX9_put x y z mr) := by
  have hh := h
  obtain ⟨_, _, _, hs, _⟩ := h
  unfold fX8_put fX9_put bX8_put_48
  rcases shb x with ⟨a1, a2⟩ | ⟨s, s1, s2, s3, s4⟩
  · rw [if_pos a1, a2, Option.bind_some, if_pos rfl]
    exact err1 hh
  · have is := o_inb s1 (show s < 2147483648 by omega)
    have ts : (o32 s).toNatClampNeg = s := o_tn (by omega)
    obtain ⟨⟨t, t1, t2, t3⟩, ⟨n, n1, n2, n3⟩, q3⟩ := hs s s1
    have t2' : mc 129 (o32 s).toNatClampNeg = o32 t := by rw [ts]; exact t2
    have t3' : mr 151 (o32 s).toNatClampNeg = o32 t := by rw [ts]; exact t3
    have n2' : mc 130 (o32 s).toNatClampNeg = o32 n := by rw [ts]; exact n2
    have n3' : mr 152 (o32 s).toNatClampNeg = o32 n := by rw [ts]; exact n3
    rw [s3, s4, if_neg one0, Option.bind_some, if_neg one0, s2, if_pos is, if_pos is, t2', t3']
    by_cases t0 : o32 t = 0
    · rw [if_pos t0, if_pos t0, if_pos is]
      exact err2 hh
    · rw [if_neg t0, if_neg t0, if_pos is, if_pos is, n2', n3']
      rcases rng (n := n) (by omega) y with ⟨i, i1, i2, i3, i4, i5⟩ | ⟨c1, c2⟩
      · rw [if_neg i3, if_pos i4, if_neg i5, if_pos is, if_pos is, i2]
        have ei : (24 : Int32) * o32 s + o32 i = o32 (24 * s + i) := by
          show o32 24 * o32 s + o32 i = _
          rw [o_mul, o_add]
        have fin : ∀ v : Int32, Sm ((bX4_set_57 s (o32 i) v mc).bind fun q7 => some (1, q7)) (bX9_put_96 (24 * o32 s + o32 i) v mr) := fun v => by
          unfold bX4_set_57 bX9_put_96
          rw [ei, if_pos (o_inb (by omega) (by omega)), if_pos (o_inb (by omega) (by omega)), o_tn (by omega), o_tn (by omega)]
          refine ⟨_, _, _, rfl, rfl, RL_sh hh (fun c j hc => by rw [mput_c _ _ _ (by omega)]) (fun c j hc => by rw [mput_c _ _ _ (by omega)]) (fun u hu => ?_)⟩
          obtain ⟨p1, p2, p3⟩ := hs u hu
          rw [mput_c _ _ _ (by omega), mput_c _ _ _ (by omega), mput_c _ _ _ (by omega), mput_c _ _ _ (by omega)]
          refine ⟨p1, p2, fun j hj => ?_⟩
          rw [mput_get, mput_get]
          by_cases e : u = s ∧ j = i
          · rw [if_pos (by omega), if_pos (by omega)]
          · rw [if_neg (by omega), if_neg (by omega)]
            exact p3 j hj
        unfold fX4_set
        rw [← s2, s3, s2, if_neg one0, if_neg (not_lt0 (by omega)), if_neg (by rw [show (24 : Int32) = o32 24 from rfl, o_le (by omega) (by omega)]; omega), if_pos is, if_pos is, t2']
        by_cases t8 : o32 t = 8
        · rw [if_pos t8, if_pos t8, ts]
          exact fin _
        · rw [if_neg t8, if_neg t8]
          by_cases t16 : o32 t = 16
          · rw [if_pos t16, if_pos t16, if_pos is, ts]
            exact fin _
          · rw [if_neg t16, if_neg t16, if_pos is, ts]
            exact fin _
      · rw [if_pos c2]
        rcases c1 with c1 | c1
        · rw [if_pos c1]
          exact err1 hh
        · by_cases y0 : y < 0
          · rw [if_pos y0]
            exact err1 hh
          · rw [if_neg y0, if_neg c1]
            exact err1 hh
theorem body_o {mc mr : Mem} (h : RLx mc mr) (x : Int32) : Df (fX8_body x mc) (fX9_body_ x mr) := by
  have hh := h
  obtain ⟨_, _, _, _, ⟨n, n1, n2⟩, p, p1, p2⟩ := h
  have A : ∃ v mc', fX8_body x mc = some (v, mc') ∧ (mc' = mc ∨ ∃ y, mc' = mput mc 136 2 y) := by
    unfold fX8_body bX8_body_15
    rw [n2]
    have no : ∃ v mc', ((fX8_no 2 mc).bind fun q1 => some (q1.1, q1.2)) = some (v, mc') ∧ (mc' = mc ∨ ∃ y, mc' = mput mc 136 2 y) := by
      rw [show fX8_no 2 mc = _ from no_c (i := 2) (by omega)]
      exact ⟨_, _, rfl, .inr ⟨_, rfl⟩⟩
    rcases rng (n := n) (by omega) x with ⟨i, i1, i2, i3, i4, i5⟩ | ⟨c1, c2⟩
    · rw [if_neg i3, if_pos i4, i2, if_pos (o_inb (by omega) (by omega))]
      exact ⟨_, _, rfl, .inl rfl⟩
    · by_cases y0 : x < 0
      · rw [if_pos y0]
        exact no
      · rw [if_neg y0, if_neg (c1.resolve_left y0)]
        exact no
  have B : ∃ v mr', fX9_body_ x mr = some (v, mr') ∧ (mr' = mr ∨ ∃ y, mr' = mput mr 141 2 y) := by
    unfold fX9_body_
    rw [p2]
    rcases rng (n := p) (by omega) x with ⟨i, i1, i2, i3, i4, i5⟩ | ⟨c1, c2⟩
    · rw [if_neg i5, i2, if_pos (o_inb (by omega) (by omega))]
      exact ⟨_, _, rfl, .inl rfl⟩
    · rw [if_pos c2, fnd_m (i := 2) (by omega) (by decide)]
      exact ⟨_, _, rfl, .inr ⟨_, rfl⟩⟩
  obtain ⟨v, mc', a1, a2⟩ := A
  obtain ⟨v', mr', b1, b2⟩ := B
  refine ⟨v, v', mc', mr', a1, b1, ?_⟩
  have eC : ∀ c j, c ≠ 136 → mc' c j = mc c j := fun c j hc => by
    rcases a2 with a2 | ⟨y, a2⟩
    · rw [a2]
    · rw [a2, mput_c _ _ _ hc]
  have eR : ∀ c j, c ≠ 141 → mr' c j = mr c j := fun c j hc => by
    rcases b2 with b2 | ⟨y, b2⟩
    · rw [b2]
    · rw [b2, mput_c _ _ _ hc]
  refine RL_k hh ?_ (fun c j hc => eC c j (by omega)) (fun c j hc => eR c j (by omega))
  rw [show mr' 138 = mr 138 from funext (fun j => eR 138 j (by omega))]
  exact WR_off hh.1 (fun c z hc => eC c z (by have := rc_le hc; omega))
end
