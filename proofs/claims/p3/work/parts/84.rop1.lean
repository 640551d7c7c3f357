/-! THE WHOLE RELATION; ACTS ON WALLS -/
def SHT (mc mr : Mem) : Prop := ∀ s, s < 4 → (∃ t, (t = 0 ∨ t = 8 ∨ t = 16 ∨ t = 32) ∧ mc 129 s = o32 t ∧ mr 151 s = o32 t) ∧ (∃ n, n ≤ 24 ∧ mc 130 s = o32 n ∧ mr 152 s = o32 n) ∧ ∀ i, i < 24 → mc (132 + s) i = mr 153 (24 * s + i)
def RLx (mc mr : Mem) : Prop := WR 0 mc (mr 138) ∧ mc 0 8 = mr 137 3 ∧ (¬ mc 0 8 = 0 → WR 1 mc (mr 139)) ∧ SHT mc mr ∧ (∃ n, n ≤ 30 ∧ mc 125 1 = o32 n) ∧ ∃ n, n ≤ 30 ∧ mr 137 19 = o32 n
def CK (m m' : Mem) : Prop := ∀ c j, (40 ≤ c ∧ c ≤ 78) ∨ (c = 0 ∧ j = 8) ∨ (129 ≤ c ∧ c ≤ 135) ∨ (c = 125 ∧ j = 1) → m' c j = m c j
def MK (m m' : Mem) : Prop := ∀ c j, c = 139 ∨ (c = 137 ∧ (j = 3 ∨ j = 19)) ∨ c = 151 ∨ c = 152 ∨ c = 153 → m' c j = m c j
theorem CK_rf {m : Mem} : CK m m := fun _ _ _ => rfl
theorem MK_rf {m : Mem} : MK m m := fun _ _ _ => rfl
theorem CK_CF {m m' : Mem} (h : CF 0 m m') : CK m m' := fun c j hc => h c j (fun o h1 h2 => by unfold cw; omega)
theorem CK_CF2 {m m' : Mem} (h : CF 2 m m') : CK m m' := fun c j hc => h c j (fun o h1 h2 => by unfold cw; omega)
theorem MK_MF {m m' : Mem} (h : MF m m') : MK m m' := fun c j hc => h c j (by omega) (by omega) (by omega) (by omega) (by omega)
theorem CK_tr {m m1 m2 : Mem} (h1 : CK m m1) (h2 : CK m1 m2) : CK m m2 := fun c j h => (h2 c j h).trans (h1 c j h)
theorem MK_tr {m m1 m2 : Mem} (h1 : MK m m1) (h2 : MK m1 m2) : MK m m2 := fun c j h => (h2 c j h).trans (h1 c j h)
theorem CK_put {m : Mem} {c j : Nat} {v : Int32} (h : ¬ ((40 ≤ c ∧ c ≤ 78) ∨ (c = 0 ∧ j = 8) ∨ (129 ≤ c ∧ c ≤ 135) ∨ (c = 125 ∧ j = 1))) : CK m (mput m c j v) := fun c' j' hc => by rw [mput_get, if_neg (by omega)]
theorem MK_put {m : Mem} {c j : Nat} {v : Int32} (h : ¬ (c = 139 ∨ (c = 137 ∧ (j = 3 ∨ j = 19)) ∨ c = 151 ∨ c = 152 ∨ c = 153)) : MK m (mput m c j v) := fun c' j' hc => by rw [mput_get, if_neg (by omega)]
theorem SHT_k {mc mc' mr mr' : Mem} (h : SHT mc mr) (c : CK mc mc') (k : MK mr mr') : SHT mc' mr' := fun s hs => by
  obtain ⟨h1, h2, h3⟩ := h s hs
  rw [c 129 s (by omega), c 130 s (by omega), k 151 s (by omega), k 152 s (by omega)]
  exact ⟨h1, h2, fun i hi => by rw [c _ i (by omega), k 153 _ (by omega)]; exact h3 i hi⟩
theorem W1_k {mc mc' mr mr' : Mem} (h : WR 1 mc (mr 139)) (c : CK mc mc') (k : MK mr mr') : WR 1 mc' (mr' 139) := by
  obtain ⟨r, al, f, q, h⟩ := h
  refine ⟨r, al, f, q, WS_same h (fun z j hz => ?_) (fun j => k 139 j (by omega))⟩
  obtain ⟨o, e, ho⟩ := hz
  refine c z j (.inl ?_)
  rw [e]
  unfold cw
  omega
theorem RL_k {mc mc' mr mr' : Mem} (h : RLx mc mr) (w : WR 0 mc' (mr' 138)) (c : CK mc mc') (k : MK mr mr') : RLx mc' mr' := by
  obtain ⟨h1, h2, h3, h4, h5, h6⟩ := h
  have e8 := c 0 8 (by omega)
  refine ⟨w, ?_, fun hz => ?_, SHT_k h4 c k, ?_, ?_⟩
  · rw [e8, k 137 3 (by omega)]; exact h2
  · rw [e8] at hz
    exact W1_k (h3 hz) c k
  · rw [c 125 1 (by omega)]; exact h5
  · rw [k 137 19 (by omega)]; exact h6
theorem RL_RW {mc mc' mr mr' : Mem} (h : RLx mc mr) (w : RW 0 mc mr mc' mr') : RLx mc' mr' := RL_k h w.1 (CK_CF w.2.1) (MK_MF w.2.2.1)
/-- both answer alike, and the relation holds on -/
def Sm (a b : Option (Int32 × Mem)) : Prop := ∃ v mc mr, a = some (v, mc) ∧ b = some (v, mr) ∧ RLx mc mr
/-- both answer -/
def Df (a b : Option (Int32 × Mem)) : Prop := ∃ v v' mc mr, a = some (v, mc) ∧ b = some (v', mr) ∧ RLx mc mr
theorem Sm_Df {a b : Option (Int32 × Mem)} (h : Sm a b) : Df a b := by
  obtain ⟨v, mc, mr, h1, h2, h3⟩ := h
  exact ⟨v, v, mc, mr, h1, h2, h3⟩
theorem WR_off {k : Nat} {m m' : Mem} {w : Nat → Int32} (h : WR k m w) (e : ∀ c j, rc k c → m' c j = m c j) : WR k m' w := by
  obtain ⟨r, al, f, q, h⟩ := h
  exact ⟨r, al, f, q, WS_same h e (fun _ => rfl)⟩
theorem rc_le {k c : Nat} (h : rc k c) : c ≤ 39 + 39 * k := by
  obtain ⟨o, e, h⟩ := h
  rw [e]
  unfold cw
  omega
theorem RL_e {mc mr : Mem} {i j : Nat} {x y : Int32} (h : RLx mc mr) : RLx (mput mc 136 i x) (mput mr 141 j y) := by
  refine RL_k h ?_ (CK_put (by omega)) (MK_put (by omega))
  have e : mput mr 141 j y 138 = mr 138 := by rw [mput_c _ _ _ (by omega)]
  rw [e]
  exact WR_off h.1 (fun c z hc => by
    have := rc_le hc
    rw [mput_c _ _ _ (by omega)])
theorem no_c {i : Nat} {m : Mem} (h7 : i < 7) : fX8_no (o32 i) m = some (-1000000 - o32 i, mput m 136 i (m 136 i + 1)) := by
  unfold fX8_no
  rw [if_neg (not_lt0 (by omega)), if_neg (by rw [show (7 : Int32) = o32 7 from rfl, o_le (by omega) (by omega)]; omega), if_pos (o_inb h7 (by omega)), if_pos (o_inb h7 (by omega)), o_tn (by omega)]
theorem fnd_m {i : Nat} {m : Mem} {x : Int32} (h7 : i < 7) (hx : -1000000 - x = o32 i) : fX9_finding x m = some (x, mput m 141 i (m 141 i + 1)) := by
  unfold fX9_finding
  rw [hx, if_pos (o_inb h7 (by omega)), if_pos (o_inb h7 (by omega)), o_tn (by omega)]
theorem err_g {mc mr : Mem} {i : Nat} {x y : Int32} (h7 : i < 7) (hy : y = o32 i) (hx : -1000000 - x = o32 i) (hxy : -1000000 - o32 i = x) (h : RLx mc mr) : Sm ((fX8_no y mc).bind fun q => some (q.1, q.2)) ((fX9_finding x mr).bind fun q => some (q.1, q.2)) := by
  rw [hy, no_c h7, fnd_m h7 hx, hxy]
  exact ⟨_, _, _, rfl, rfl, RL_e h⟩
theorem err1 {mc mr : Mem} (h : RLx mc mr) : Sm ((fX8_no 1 mc).bind fun q => some (q.1, q.2)) ((fX9_finding (-1000001) mr).bind fun q => some (q.1, q.2)) := err_g (i := 1) (by omega) rfl (by decide) (by decide) h
theorem err2 {mc mr : Mem} (h : RLx mc mr) : Sm ((fX8_no 2 mc).bind fun q => some (q.1, q.2)) ((fX9_finding (-1000002) mr).bind fun q => some (q.1, q.2)) := err_g (i := 2) (by omega) rfl (by decide) (by decide) h
theorem err3 {mc mr : Mem} (h : RLx mc mr) : Sm ((fX8_no 3 mc).bind fun q => some (q.1, q.2)) ((fX9_finding (-1000003) mr).bind fun q => some (q.1, q.2)) := err_g (i := 3) (by omega) rfl (by decide) (by decide) h
theorem err4 {mc mr : Mem} (h : RLx mc mr) : Sm ((fX8_no 4 mc).bind fun q => some (q.1, q.2)) ((fX9_finding (-1000004) mr).bind fun q => some (q.1, q.2)) := err_g (i := 4) (by omega) rfl (by decide) (by decide) h
theorem err5 {mc mr : Mem} (h : RLx mc mr) : Sm ((fX8_no 5 mc).bind fun q => some (q.1, q.2)) ((fX9_finding (-1000005) mr).bind fun q => some (q.1, q.2)) := err_g (i := 5) (by omega) rfl (by decide) (by decide) h
theorem err6 {mc mr : Mem} (h : RLx mc mr) : Sm ((fX8_no 6 mc).bind fun q => some (q.1, q.2)) ((fX9_finding (-1000006) mr).bind fun q => some (q.1, q.2)) := err_g (i := 6) (by omega) rfl (by decide) (by decide) h
theorem err31 {mc mr : Mem} (h : RLx mc mr) : Df ((fX8_no 3 mc).bind fun q => some (q.1, q.2)) ((fX9_finding (-1000001) mr).bind fun q => some (q.1, q.2)) := by
  rw [show fX8_no 3 mc = _ from no_c (i := 3) (by omega), fnd_m (i := 1) (by omega) (by decide)]
  exact ⟨_, _, _, _, rfl, rfl, RL_e h⟩
theorem isb {mc mr : Mem} {r : Nat → List Nat} {al : Nat → Bool} {f : Nat → Nat → Nat} {q : Nat → List Nat} (h : WS 0 mc (mr 138) r al f q) (x : Int32) : (fX0_has 0 x mc = 0 ∧ fX9_is x mr = some 0) ∨ ∃ n, n < 16 ∧ x = o32 n ∧ al n = true ∧ fX0_has 0 x mc = 1 ∧ fX9_is x mr = some 1 := by
  rcases has_any (WS_4 h) x with h1 | ⟨n, n1, n2, n3, n4⟩
  · rcases is_any (WS_3 h) x with h2 | ⟨n, n1, n2, n3, n4⟩
    · exact .inl ⟨h1, h2⟩
    · rw [n2, has_c (WS_4 h) n1, n3] at h1
      exact absurd h1 (by decide)
  · have e := is_s n1 (WS_3 h)
    rw [n3] at e
    rw [n2] at n4 ⊢
    exact .inr ⟨n, n1, rfl, n3, n4, e⟩
theorem twob {mc mr : Mem} {r : Nat → List Nat} {al : Nat → Bool} {f : Nat → Nat → Nat} {q : Nat → List Nat} (h : WS 0 mc (mr 138) r al f q) (x y : Int32) : (fX8_areBubbles x y mc = 0 ∧ fX9_areTwo x y mr = some 0) ∨ (∃ a b, a < 16 ∧ b < 16 ∧ a ≠ b ∧ x = o32 a ∧ y = o32 b ∧ al a = true ∧ al b = true ∧ fX8_areBubbles x y mc = 1 ∧ fX9_areTwo x y mr = some 1) ∨ ∃ a, a < 16 ∧ x = o32 a ∧ y = o32 a ∧ al a = true ∧ fX8_areBubbles x y mc = 1 ∧ fX9_areTwo x y mr = some 0 := by
  unfold fX8_areBubbles fX9_areTwo
  rcases isb h x with ⟨a1, a2⟩ | ⟨a, a1, a2, a3, a4, a5⟩
  · left
    rw [if_pos a1, a2]
    exact ⟨rfl, rfl⟩
  · rcases isb h y with ⟨b1, b2⟩ | ⟨b, b1, b2, b3, b4, b5⟩
    · left
      rw [a4, if_neg (by decide), if_pos b1, a5, Option.bind_some, if_neg (by decide), b2]
      exact ⟨rfl, rfl⟩
    · right
      rw [a4, b4, if_neg (by decide), if_neg (by decide), a5, b5, Option.bind_some, if_neg (by decide), Option.bind_some, if_neg (by decide)]
      by_cases e : a = b
      · subst e
        right
        exact ⟨a, a1, a2, b2, a3, rfl, by rw [if_pos (by rw [a2, b2])]⟩
      · left
        exact ⟨a, b, a1, b1, e, a2, b2, a3, b3, rfl, by rw [if_neg (by rw [a2, b2, o_eq (by omega) (by omega)]; exact e)]⟩
theorem noself {r : Nat → List Nat} {al : Nat → Bool} {a : Nat} (hg : Gr r al) (ha : a < 16) (ala : al a = true) : a ∉ r a := fun z => ((hg.1 a ha ala a z).2 (by omega)).2.1 rfl
theorem turn_o {mc mr : Mem} (h : RLx mc mr) (x y : Int32) : Df (fX8_turn x y mc) (fX9_turn x y mr) := by
  have hh := h
  obtain ⟨⟨r, al, f, q, w⟩, _⟩ := h
  have G := WS_1 w
  unfold fX8_turn fX9_turn bX9_turn_34
  rcases twob w x y with ⟨a1, a2⟩ | ⟨a, b, a1, a2, a3, a4, a5, a6, a7, a8, a9⟩ | ⟨a, a1, a2, a3, a4, a5, a6⟩
  · rw [if_pos a1, a2, Option.bind_some, if_pos rfl]
    exact Sm_Df (err1 hh)
  · rw [a8, a9, a4, a5, if_neg (by decide), Option.bind_some, if_neg (by decide), two_m (WS_3 w) a1 a2 a6, Option.bind_some]
    by_cases hm : b ∈ r a
    · obtain ⟨v, v1, v2, v3⟩ := canTurn_R w a1 a2 a6 a7 hm
      rw [if_pos hm, if_neg (by decide), v1, v2, Option.bind_some, Option.bind_some]
      rcases v3 with v3 | ⟨v3, v4⟩
      · rw [if_pos v3, if_pos v3]
        exact Sm_Df (err3 hh)
      · obtain ⟨m', mr', t1, t2, t3, t4, t5, t6⟩ := turn_R w a1 a2 a6 a7 hm v4
        rw [if_neg v3, if_neg v3, t1, t2, Option.bind_some, Option.bind_some, if_pos (o_inb a1 (by omega)), sd_c t3 a1 a6, sd_m t3 a1 a6, Option.bind_some]
        exact ⟨_, _, _, _, rfl, rfl, RL_RW hh ⟨⟨_, _, _, _, t3⟩, t4, t5, t6⟩⟩
    · have e : fX0_canTurn 0 (o32 a) (o32 b) mc = some 0 := by
        unfold fX0_canTurn
        rw [isWall_c (WS_4 w) a1 a2, decide_eq_false hm, Bool.and_false, Bool.and_false]
        rfl
      rw [if_neg hm, if_pos rfl, e, Option.bind_some, if_pos rfl]
      exact Sm_Df (err3 hh)
  · have e : fX0_canTurn 0 (o32 a) (o32 a) mc = some 0 := by
      unfold fX0_canTurn
      rw [isWall_c (WS_4 w) a1 a1, decide_eq_false (noself G a1 a4), Bool.and_false, Bool.and_false]
      rfl
    rw [a5, a6, a2, a3, if_neg (by decide), Option.bind_some, if_pos rfl, e, Option.bind_some, if_pos rfl]
    exact err31 hh
theorem burst_o {mc mr : Mem} (h : RLx mc mr) (x y : Int32) : Df (fX8_burst x y mc) (fX9_burst x y mr) := by
  have hh := h
  obtain ⟨⟨r, al, f, q, w⟩, _⟩ := h
  have G := WS_1 w
  unfold fX8_burst fX9_burst bX9_burst_34
  rcases twob w x y with ⟨a1, a2⟩ | ⟨a, b, a1, a2, a3, a4, a5, a6, a7, a8, a9⟩ | ⟨a, a1, a2, a3, a4, a5, a6⟩
  · rw [if_pos a1, a2, Option.bind_some, if_pos rfl]
    exact Sm_Df (err1 hh)
  · rw [a8, a9, a4, a5, if_neg (by decide), Option.bind_some, if_neg (by decide), two_m (WS_3 w) a1 a2 a6, Option.bind_some]
    by_cases hm : b ∈ r a
    · rw [if_pos hm, if_neg (by decide), canBurst_c (WS_4 w) G a1 a2 a6 a7 hm, canBurst_s a1 a2 (WS_3 w) G a6 a7 hm, Option.bind_some, Option.bind_some]
      cases hb : mayBur r a b with
      | false =>
        rw [if_pos (show i01 false = 0 from rfl), if_pos (show i01 false = 0 from rfl)]
        exact Sm_Df (err3 hh)
      | true =>
        obtain ⟨m', mr', t1, t2, t3, t4⟩ := unite_R w a1 a2 a3 a6 a7 hm hb
        rw [if_neg (show ¬ i01 true = 0 by decide), if_neg (show ¬ i01 true = 0 by decide), t1, t2, Option.bind_some, Option.bind_some]
        exact ⟨_, _, _, _, rfl, rfl, RL_RW hh t3⟩
    · have e : fX0_canBurst 0 (o32 a) (o32 b) mc = some 0 := by
        unfold fX0_canBurst
        rw [isWall_c (WS_4 w) a1 a2, decide_eq_false hm, Bool.and_false, Bool.and_false]
        rfl
      rw [if_neg hm, if_pos rfl, e, Option.bind_some, if_pos rfl]
      exact Sm_Df (err3 hh)
  · have e : fX0_canBurst 0 (o32 a) (o32 a) mc = some 0 := by
      unfold fX0_canBurst
      rw [isWall_c (WS_4 w) a1 a1, decide_eq_false (noself G a1 a4), Bool.and_false, Bool.and_false]
      rfl
    rw [a5, a6, a2, a3, if_neg (by decide), Option.bind_some, if_pos rfl, e, Option.bind_some, if_pos rfl]
    exact err31 hh
