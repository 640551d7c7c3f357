section
/-! A BURSTING over the model's rings -/
theorem within_o {x l h : Nat} (hx : x < 1000000) (hl : l < 1000000) (hh : h < 1000000) : fX9_within (o32 x) (o32 l) (o32 h) = if l ≤ x ∧ x ≤ h then 1 else 0 := by
  unfold fX9_within
  by_cases h1 : x < l
  · rw [if_pos (by rw [o_lt (by omega) (by omega)]; exact h1), if_neg (by omega)]
  · rw [if_neg (by rw [o_lt (by omega) (by omega)]; exact h1)]
    by_cases h2 : h < x
    · rw [if_pos (by rw [o_lt (by omega) (by omega)]; exact h2), if_neg (by omega)]
    · rw [if_neg (by rw [o_lt (by omega) (by omega)]; exact h2), if_pos (by omega)]
theorem is_s {m : Mem} {r : Nat → List Nat} {al : Nat → Bool} {x : Nat} (hx : x < 16) (hs : RS m r al) : fX9_is (o32 x) m = some (i01 (al x)) := by
  have w : fX9_within (o32 x) 0 15 = 1 := by
    rw [show fX9_within (o32 x) 0 15 = _ from within_o (l := 0) (h := 15) (by omega) (by omega) (by omega), if_pos (by omega)]
  unfold fX9_is
  rw [w, if_neg (by decide), show fX9_of (o32 x) 0 m = _ from of_o (f := 0) hx (by omega), Option.bind_some, Nat.add_zero, (hs x hx).1]
  cases al x <;> rfl
theorem min_o {a b : Nat} (ha : a < 1000) (hb : b < 1000) : fJ9_min_7cf53 (o32 a) (o32 b) = o32 (min a b) := by
  unfold fJ9_min_7cf53
  by_cases h : a ≤ b
  · rw [show min a b = a by omega]
    by_cases h2 : b < a
    · omega
    · first
      | rw [if_pos (by rw [o_le (by omega) (by omega)]; exact h)]
      | (rw [if_neg (by rw [o_lt (by omega) (by omega)]; omega)])
  · rw [show min a b = b by omega]
    first
    | rw [if_neg (by rw [o_le (by omega) (by omega)]; exact h)]
    | rw [if_pos (by rw [o_lt (by omega) (by omega)]; omega)]
theorem max_o {a b : Nat} (ha : a < 1000) (hb : b < 1000) : fJ9_max_7cf53 (o32 a) (o32 b) = o32 (max a b) := by
  unfold fJ9_max_7cf53
  by_cases h : b ≤ a
  · rw [show max a b = a by omega]
    first
    | rw [if_neg (by rw [o_lt (by omega) (by omega)]; omega)]
    | rw [if_pos (by rw [o_le (by omega) (by omega)]; omega)]
  · rw [show max a b = b by omega]
    first
    | rw [if_pos (by rw [o_lt (by omega) (by omega)]; omega)]
    | rw [if_neg (by rw [o_le (by omega) (by omega)]; omega)]
theorem at_z {m : Mem} {b p k : Nat} {l : List Nat} (hb : b < 16) (h : rgAt m b l) (hp : p < l.length) (hk : k ≤ l.length) : fX9_at (o32 b) (o32 p + o32 k) m = some (o32 (l.getD ((p + k) % l.length) 0)) := by
  have h1 := h.1
  have hz : (p + k) % l.length < l.length := Nat.mod_lt _ (by omega)
  rw [o_add, at_s hb h hz]
  · rw [List.getD_eq_getElem?_getD, List.getElem?_eq_getElem hz]
    rfl
  · rw [o_ti (by omega)]
    by_cases h2 : p + k < l.length
    · left; rw [Nat.mod_eq_of_lt h2]
    · right; left
      rw [Nat.mod_eq_sub_mod (by omega)]
      by_cases h3 : p + k - l.length < l.length
      · rw [Nat.mod_eq_of_lt h3]; omega
      · omega
noncomputable def seamA (l : List Nat) (p : Nat) : List Nat := (List.range (l.length - 1)).map (fun k => l.getD ((p + (1 + k)) % l.length) 0)
noncomputable def seamB (l : List Nat) (q : Nat) : List Nat := (List.range (l.length - 3)).map (fun k => l.getD ((q + (2 + k)) % l.length) 0)
noncomputable def seam (r : Nat → List Nat) (a b : Nat) : List Nat := seamA (r a) ((r a).idxOf b) ++ seamB (r b) ((r b).idxOf a)
theorem seam_len (r : Nat → List Nat) (a b : Nat) : (seam r a b).length = ((r a).length - 1) + ((r b).length - 3) := by
  unfold seam seamA seamB
  simp
/-- the memory while the seam is sewn -/
noncomputable def swM (m : Mem) (sw : List Nat) (j : Nat) : Mem := fun c i => if c = 142 ∧ i < j then o32 (sw.getD i 0) else m c i
theorem swM_0 (m : Mem) (sw : List Nat) : swM m sw 0 = m := by
  funext c i
  unfold swM
  rw [if_neg (by omega)]
theorem swM_s (m : Mem) (sw : List Nat) (j : Nat) : mput (swM m sw j) 142 j (o32 (sw.getD j 0)) = swM m sw (j + 1) := by
  funext c i
  rw [mput_get]
  unfold swM
  by_cases h : c = 142 ∧ i = j
  · rw [if_pos h, if_pos (by omega), h.2]
  · rw [if_neg h]
    by_cases h2 : c = 142 ∧ i < j
    · rw [if_pos h2, if_pos (by omega)]
    · rw [if_neg h2, if_neg (by omega)]
theorem rgAt_142 {m m' : Mem} {b : Nat} {l : List Nat} (h : rgAt m b l) (ho : ∀ i, m' 138 i = m 138 i) : rgAt m' b l := by
  obtain ⟨h1, h2, h3, h4⟩ := h
  exact ⟨h1, by rw [ho]; exact h2, h3, fun i hi => by rw [ho]; exact h4 i hi⟩
theorem swM_138 (m : Mem) (sw : List Nat) (j i : Nat) : swM m sw j 138 i = m 138 i := by
  unfold swM
  rw [if_neg (by omega)]
/-- the ring of x when a stands for b too -/
noncomputable def stand (l : List Nat) (a b : Nat) : List Nat := if a ∈ l then rmv l b else l.set (l.idxOf b) a
noncomputable def burX (r : Nat → List Nat) (al : Nat → Bool) (a b i : Nat) : Nat → List Nat := fun y => if y < i ∧ y ≠ a ∧ y ≠ b ∧ al y = true ∧ b ∈ r y then stand (r y) a b else r y
noncomputable def wrM (m : Mem) (a : Nat) (sw : List Nat) (j : Nat) : Mem := fun c i => if c = 138 ∧ 12 + 50 * a + 6 ≤ i ∧ i < 12 + 50 * a + 6 + j then o32 (sw.getD (i - (12 + 50 * a + 6)) 0) else m c i
/-- the memory behind a bursting -/
noncomputable def burM (m : Mem) (a b : Nat) (sw : List Nat) : Mem :=
  let m1 := mput (mput (wrM m a sw sw.length) 138 (12 + 50 * a + 5) (o32 sw.length)) 138 (12 + 50 * a + 1) 6
  let m2 := mput m1 138 (12 + 50 * a + 2) (fJ9_min_7cf53 99999 (m 138 (12 + 50 * a + 2) + m 138 (12 + 50 * b + 2)))
  let m3 := mput m2 138 (12 + 50 * a + 3) (fJ9_min_7cf53 99999 (m 138 (12 + 50 * a + 3) + m 138 (12 + 50 * b + 3)))
  mput m3 138 (12 + 50 * b + 0) 0
theorem write_s {m : Mem} {a b : Nat} {sw : List Nat} (ha : a < 16) (hb : b < 16) (hab : a ≠ b) (hl : sw.length ≤ 44) (h142 : ∀ i, i < sw.length → m 142 i = o32 (sw.getD i 0)) : lp (lX9_bursts_213 (o32 a) (o32 b) (o32 sw.length)) fu (0, m) = some (o32 a, mput (burM m a b sw) 138 10 (m 138 10 + 1)) := by
  have st : ((0 : Int32), m) = (fun j => (o32 j, wrM m a sw j)) 0 := by
    show _ = (o32 0, wrM m a sw 0)
    have : wrM m a sw 0 = m := by
      funext c i
      unfold wrM
      rw [if_neg (by omega)]
    rw [this]
    rfl
  rw [st]
  refine lp_fwd (body := lX9_bursts_213 (o32 a) (o32 b) (o32 sw.length)) sw.length (fun j => (o32 j, wrM m a sw j)) fu (fun j hj => ?_) ?_ (lt_fu (by omega))
  · unfold lX9_bursts_213
    dsimp only
    rw [if_neg (by rw [o_le (by omega) (by omega)]; omega), if_pos (o_inb (by omega) (by omega)), tr_o ha (by omega), Option.bind_some, o_s, o_tn (by omega)]
    have e : wrM m a sw j 142 j = o32 (sw.getD j 0) := by
      unfold wrM
      rw [if_neg (by omega)]
      exact h142 j hj
    rw [e]
    congr 3
    funext c i
    rw [mput_get]
    unfold wrM
    by_cases h : c = 138 ∧ i = 12 + 50 * a + (6 + j)
    · rw [if_pos h, if_pos (by omega), h.2]
      congr 2
      omega
    · rw [if_neg h]
      by_cases h2 : c = 138 ∧ 12 + 50 * a + 6 ≤ i ∧ i < 12 + 50 * a + 6 + j
      · rw [if_pos h2, if_pos (by omega)]
      · rw [if_neg h2, if_neg (by omega)]
  · unfold lX9_bursts_213
    dsimp only
    have W : ∀ c i, ¬ (c = 138 ∧ 12 + 50 * a + 6 ≤ i ∧ i < 12 + 50 * a + 6 + sw.length) → wrM m a sw sw.length c i = m c i := fun c i h => by
      unfold wrM
      rw [if_neg h]
    rw [if_pos (by rw [o_le (by omega) (by omega)]; omega)]
    have T5 : ∀ q, fX9_tells (o32 a) 5 (o32 sw.length) q = some (mput q 138 (12 + 50 * a + 5) (o32 sw.length)) := fun q => tl_o (f := 5) ha (by omega)
    have T1 : ∀ q, fX9_tells (o32 a) 1 6 q = some (mput q 138 (12 + 50 * a + 1) 6) := fun q => tl_o (f := 1) ha (by omega)
    have T2 : ∀ v q, fX9_tells (o32 a) 2 v q = some (mput q 138 (12 + 50 * a + 2) v) := fun v q => tl_o (f := 2) ha (by omega)
    have T3 : ∀ v q, fX9_tells (o32 a) 3 v q = some (mput q 138 (12 + 50 * a + 3) v) := fun v q => tl_o (f := 3) ha (by omega)
    have T0 : ∀ v q, fX9_tells (o32 b) 0 v q = some (mput q 138 (12 + 50 * b + 0) v) := fun v q => tl_o (f := 0) hb (by omega)
    have O2a : ∀ q, fX9_of (o32 a) 2 q = some (q 138 (12 + 50 * a + 2)) := fun q => of_o (f := 2) ha (by omega)
    have O2b : ∀ q, fX9_of (o32 b) 2 q = some (q 138 (12 + 50 * b + 2)) := fun q => of_o (f := 2) hb (by omega)
    have O3a : ∀ q, fX9_of (o32 a) 3 q = some (q 138 (12 + 50 * a + 3)) := fun q => of_o (f := 3) ha (by omega)
    have O3b : ∀ q, fX9_of (o32 b) 3 q = some (q 138 (12 + 50 * b + 3)) := fun q => of_o (f := 3) hb (by omega)
    simp only [T5, T1, T2, T3, T0, O2a, O2b, O3a, O3b, Option.bind_some]
    have g2a : mput (mput (wrM m a sw sw.length) 138 (12 + 50 * a + 5) (o32 sw.length)) 138 (12 + 50 * a + 1) 6 138 (12 + 50 * a + 2) = m 138 (12 + 50 * a + 2) := by
      rw [mput_get, if_neg (by omega), mput_get, if_neg (by omega), W _ _ (by omega)]
    have g2b : mput (mput (wrM m a sw sw.length) 138 (12 + 50 * a + 5) (o32 sw.length)) 138 (12 + 50 * a + 1) 6 138 (12 + 50 * b + 2) = m 138 (12 + 50 * b + 2) := by
      rw [mput_get, if_neg (by omega), mput_get, if_neg (by omega), W _ _ (by omega)]
    have g3a : ∀ v, mput (mput (mput (wrM m a sw sw.length) 138 (12 + 50 * a + 5) (o32 sw.length)) 138 (12 + 50 * a + 1) 6) 138 (12 + 50 * a + 2) v 138 (12 + 50 * a + 3) = m 138 (12 + 50 * a + 3) := fun v => by
      rw [mput_get, if_neg (by omega), mput_get, if_neg (by omega), mput_get, if_neg (by omega), W _ _ (by omega)]
    have g3b : ∀ v, mput (mput (mput (wrM m a sw sw.length) 138 (12 + 50 * a + 5) (o32 sw.length)) 138 (12 + 50 * a + 1) 6) 138 (12 + 50 * a + 2) v 138 (12 + 50 * b + 3) = m 138 (12 + 50 * b + 3) := fun v => by
      rw [mput_get, if_neg (by omega), mput_get, if_neg (by omega), mput_get, if_neg (by omega), W _ _ (by omega)]
    rw [g2a, g2b, g3a, g3b]
    have g10 : burM m a b sw 138 10 = m 138 10 := by
      unfold burM
      rw [mput_get, if_neg (by omega), mput_get, if_neg (by omega), mput_get, if_neg (by omega), mput_get, if_neg (by omega), mput_get, if_neg (by omega), W _ _ (by omega)]
    rw [← g10]
    rfl
/-- what stands in the memory behind a bursting -/
theorem burM_RS {m : Mem} {r1 : Nat → List Nat} {al : Nat → Bool} {a b : Nat} {sw : List Nat} (ha : a < 16) (hb : b < 16) (hab : a ≠ b) (hs : RS m r1 al) (hl : sw.length ≤ 44) (h16 : ∀ x ∈ sw, x ≤ 16) : RS (burM m a b sw) (setR r1 a sw) (offB al b) ∧ (∀ c j, ¬ (c = 138 ∧ 12 ≤ j ∧ j < 812) → burM m a b sw c j = m c j) := by
  have W : ∀ c i, burM m a b sw c i = if c = 138 ∧ i = 12 + 50 * b + 0 then 0 else if c = 138 ∧ i = 12 + 50 * a + 3 then fJ9_min_7cf53 99999 (m 138 (12 + 50 * a + 3) + m 138 (12 + 50 * b + 3)) else if c = 138 ∧ i = 12 + 50 * a + 2 then fJ9_min_7cf53 99999 (m 138 (12 + 50 * a + 2) + m 138 (12 + 50 * b + 2)) else if c = 138 ∧ i = 12 + 50 * a + 1 then 6 else if c = 138 ∧ i = 12 + 50 * a + 5 then o32 sw.length else wrM m a sw sw.length c i := fun c i => by
    unfold burM
    rw [mput_get, mput_get, mput_get, mput_get, mput_get]
  refine ⟨fun x hx => ⟨?_, fun hax => ?_⟩, fun c j hn => ?_⟩
  · rw [W]
    by_cases e : x = b
    · rw [if_pos ⟨rfl, by omega⟩]
      unfold offB
      rw [if_pos e]
      rfl
    · rw [if_neg (by omega), if_neg (by omega), if_neg (by omega), if_neg (by omega), if_neg (by omega)]
      unfold wrM offB
      rw [if_neg (by omega), if_neg e]
      exact (hs x hx).1
  · have hxb : x ≠ b := fun z => by unfold offB at hax; rw [if_pos z] at hax; cases hax
    have hax : al x = true := by unfold offB at hax; rw [if_neg hxb] at hax; exact hax
    by_cases e : x = a
    · subst e
      rw [setR_at]
      refine ⟨hl, ?_, h16, fun k hk => ?_⟩
      · rw [W, if_neg (by omega), if_neg (by omega), if_neg (by omega), if_neg (by omega), if_pos ⟨rfl, rfl⟩]
      · rw [W, if_neg (by omega), if_neg (by omega), if_neg (by omega), if_neg (by omega), if_neg (by omega)]
        unfold wrM
        rw [if_pos (by omega), show 12 + 50 * x + (6 + k) - (12 + 50 * x + 6) = k by omega, List.getD_eq_getElem?_getD, List.getElem?_eq_getElem hk]
        rfl
    · rw [setR_ne _ _ e]
      obtain ⟨q1, q2, q3, q4⟩ := (hs x hx).2 hax
      refine ⟨q1, ?_, q3, fun k hk => ?_⟩
      · rw [W, if_neg (by omega), if_neg (by omega), if_neg (by omega), if_neg (by omega), if_neg (by omega)]
        unfold wrM
        rw [if_neg (by omega)]
        exact q2
      · rw [W, if_neg (by omega), if_neg (by omega), if_neg (by omega), if_neg (by omega), if_neg (by omega)]
        unfold wrM
        rw [if_neg (by omega)]
        exact q4 k hk
  · rw [W, if_neg (by omega), if_neg (by omega), if_neg (by omega), if_neg (by omega), if_neg (by omega)]
    unfold wrM
    rw [if_neg (by omega)]
/-- for all the others a stands for b too -/
theorem others_s {m : Mem} {r : Nat → List Nat} {al : Nat → Bool} {a b : Nat} {sw : List Nat} (ha : a < 16) (hb : b < 16) (hab : a ≠ b) (hs : RS m r al) (hg : Gr r al) (hl : sw.length ≤ 44) (h142 : ∀ i, i < sw.length → m 142 i = o32 (sw.getD i 0)) : ∃ m1, lp (lX9_bursts_119 (o32 a) (o32 b) (o32 sw.length)) fu (0, m) = some (o32 a, mput (burM m1 a b sw) 138 10 (m 138 10 + 1)) ∧ RS m1 (burX r al a b 16) al ∧ frR m m1 := by
  have key := lp_ix (body := lX9_bursts_119 (o32 a) (o32 b) (o32 sw.length)) (fun i s => s.1 = o32 i ∧ RS s.2 (burX r al a b i) al ∧ frR m s.2) (fun e => ∃ m1, e = (o32 a, mput (burM m1 a b sw) 138 10 (m 138 10 + 1)) ∧ RS m1 (burX r al a b 16) al ∧ frR m m1) 16 0 (0, m) fu ⟨rfl, by
      intro y hy
      have e : burX r al a b 0 y = r y := by unfold burX; rw [if_neg (by omega)]
      rw [e]
      exact hs y hy, frR_rf⟩ (fun x s _ hx hI => ?_) (fun s hI => ?_) (lt_fu (by omega))
  · obtain ⟨e, e1, m1, e2, e3⟩ := key
    exact ⟨m1, by rw [← e2]; exact e1, e3⟩
  · obtain ⟨i1, i2, i3⟩ := hI
    have hx : x < 16 := by omega
    have bx : burX r al a b x x = r x := by unfold burX; rw [if_neg (by omega)]
    have same : (x ≠ a → x ≠ b → al x = true → b ∉ r x) → burX r al a b (x + 1) = burX r al a b x := fun h => by
      funext y
      unfold burX
      by_cases e : y = x
      · subst e
        rw [if_neg (fun z => h z.2.1 z.2.2.1 z.2.2.2.1 z.2.2.2.2), if_neg (by omega)]
      · by_cases e2 : y < x
        · simp only [show (y < x + 1) = True by simp; omega, show (y < x) = True by simp; omega]
        · simp only [show (y < x + 1) = False by simp; omega, show (y < x) = False by simp; omega]
    unfold lX9_bursts_119
    rw [i1, if_neg (by rw [show (16 : Int32) = o32 16 from rfl, o_le (by omega) (by omega)]; omega)]
    by_cases q1 : x = a
    · rw [if_pos (by rw [q1]), o_s]
      exact ⟨_, rfl, rfl, by rw [same (fun h => absurd q1 h)]; exact i2, i3⟩
    · rw [if_neg (by rw [o_eq (by omega) (by omega)]; exact q1)]
      by_cases q2 : x = b
      · rw [if_pos (by rw [q2]), o_s]
        exact ⟨_, rfl, rfl, by rw [same (fun _ h => absurd q2 h)]; exact i2, i3⟩
      · rw [if_neg (by rw [o_eq (by omega) (by omega)]; exact q2), is_s hx i2, Option.bind_some]
        by_cases q3 : al x = true
        · have sx := (i2 x hx).2 q3
          rw [bx] at sx
          rw [q3, if_neg (by decide), isWall_s hx (by omega) sx, Option.bind_some]
          by_cases q4 : b ∈ r x
          · rw [if_pos q4, if_neg (by decide), isWall_s hx (by omega) sx, Option.bind_some]
            have new : burX r al a b (x + 1) = setR (burX r al a b x) x (stand (r x) a b) := by
              funext y
              unfold burX setR
              by_cases e : y = x
              · rw [e, if_pos ⟨by omega, q1, q2, q3, q4⟩, if_pos rfl]
              · rw [if_neg e]
                by_cases e2 : y < x
                · simp only [show (y < x + 1) = True by simp; omega, show (y < x) = True by simp; omega]
                · simp only [show (y < x + 1) = False by simp; omega, show (y < x) = False by simp; omega]
            rw [new]
            by_cases q5 : a ∈ r x
            · rw [if_pos q5, if_neg (by decide), placeIn_s hx (by omega) sx, Option.bind_some]
              obtain ⟨m', e1, s1, o1⟩ := shutsP hx sx q4
              rw [e1, Option.bind_some, o_s]
              refine ⟨_, rfl, rfl, RS_set hx i2 o1 ?_, frR_tr i3 (frR_of hx o1)⟩
              unfold stand
              rw [if_pos q5]
              exact s1
            · rw [if_neg q5, if_pos rfl, placeIn_s hx (by omega) sx, Option.bind_some, plc_in q4]
              have hi := List.idxOf_lt_length_of_mem q4
              have l1 := sx.1
              rw [tr_o hx (by omega), Option.bind_some, o_s]
              have o1 : offR s.2 (mput s.2 138 (12 + 50 * x + (6 + (r x).idxOf b)) (o32 a)) x := fun c j hn => by
                rw [mput_get, if_neg (by omega)]
              refine ⟨_, rfl, rfl, RS_set hx i2 o1 ?_, frR_tr i3 (frR_of hx o1)⟩
              unfold stand
              rw [if_neg q5]
              obtain ⟨p1, p2, p3, p4⟩ := sx
              refine ⟨by rw [List.length_set]; exact p1, ?_, fun y hy => ?_, fun k hk => ?_⟩
              · dsimp only
                rw [mput_get, if_neg (by omega), List.length_set]; exact p2
              · rcases List.mem_or_eq_of_mem_set hy with z | z
                · exact p3 y z
                · omega
              · rw [List.length_set] at hk
                dsimp only
                rw [mput_get, List.getElem_set]
                by_cases e : (r x).idxOf b = k
                · rw [if_pos (by omega), if_pos e]
                · rw [if_neg (by omega), if_neg e]
                  exact p4 k hk
          · rw [if_neg q4, if_pos rfl, o_s]
            exact ⟨_, rfl, rfl, by rw [same (fun _ _ _ => q4)]; exact i2, i3⟩
        · have q3' : al x = false := by simpa using q3
          rw [q3', if_pos (by decide), o_s]
          exact ⟨_, rfl, rfl, by rw [same (fun _ _ h => absurd h q3)]; exact i2, i3⟩
  · obtain ⟨i1, i2, i3⟩ := hI
    rw [Nat.zero_add] at i1 i2
    unfold lX9_bursts_119
    rw [i1, if_pos (by decide)]
    have h142' : ∀ i, i < sw.length → s.2 142 i = o32 (sw.getD i 0) := fun i hi => by
      rw [i3 142 i (fun z => by omega)]
      exact h142 i hi
    rw [write_s ha hb hab hl h142', i3 138 10 (fun z => by obtain ⟨_, b', _, h1, _⟩ := z; omega)]
    exact ⟨_, rfl, s.2, rfl, i2, i3⟩
theorem Ur_two {r : Nat → List Nat} {al : Nat → Bool} {a b : Nat} (ha : a < 16) (hb : b < 16) (hab : a ≠ b) (ala : al a = true) (alb : al b = true) : wt (r a) + wt (r b) ≤ Ur r al := by
  have h1 := Ur_set (r := r) (l := []) ha ala
  have h2 := Ur_ge (r := setR r a []) hb alb
  rw [setR_ne _ _ hab.symm] at h2
  have : wt [] = 0 := rfl
  omega
theorem seam_g1 {r : Nat → List Nat} {a b k : Nat} (hk : k < (r a).length - 1) : (seam r a b).getD k 0 = (r a).getD (((r a).idxOf b + (1 + k)) % (r a).length) 0 := by
  unfold seam seamA
  rw [List.getD_eq_getElem?_getD, List.getElem?_append_left (by simp; omega), List.getElem?_map, List.getElem?_range hk]
  rfl
theorem seam_g2 {r : Nat → List Nat} {a b k : Nat} (hk : k < (r b).length - 3) : (seam r a b).getD ((r a).length - 1 + k) 0 = (r b).getD (((r b).idxOf a + (2 + k)) % (r b).length) 0 := by
  have hl : (seamA (r a) ((r a).idxOf b)).length = (r a).length - 1 := by unfold seamA; simp
  unfold seam
  rw [List.getD_eq_getElem?_getD, List.getElem?_append_right (by omega), hl, Nat.add_sub_cancel_left]
  unfold seamB
  rw [List.getElem?_map, List.getElem?_range hk]
  rfl
/-- what bursts, in whole: the lesser stays -/
theorem bursts_lo {m : Mem} {r : Nat → List Nat} {al : Nat → Bool} {a b : Nat} (ha : a < 16) (hb : b < 16) (hab : a ≠ b) (hs : RS m r al) (hg : Gr r al) (ala : al a = true) (alb : al b = true) (hm : b ∈ r a) : ∃ m1, lp (lX9_bursts_37 (o32 a) (o32 b) (plc (r a) b) (plc (r b) a)) fu (0, 1, m) = some (o32 a, mput (burM m1 a b (seam r a b)) 138 10 (m 138 10 + 1)) ∧ RS m1 (burX r al a b 16) al ∧ (∀ c j, ¬ (c = 138 ∧ ∃ b, b < 16 ∧ 12 + 50 * b + 5 ≤ j ∧ j < 12 + 50 * b + 50) → c ≠ 142 → m1 c j = m c j) := by
  have sa := (hs a ha).2 ala
  have sb := (hs b hb).2 alb
  have hm2 : a ∈ r b := ((hg.1 a ha ala b hm).2 (by omega)).2.2
  have pa := List.idxOf_lt_length_of_mem hm
  have pb := List.idxOf_lt_length_of_mem hm2
  have la := Gr_len hg ha ala
  have lb := Gr_len hg hb alb
  have sl := seam_len r a b
  rw [plc_in hm, plc_in hm2]
  -- the memory behind the sewing
  have S : ∀ j, RS (swM m (seam r a b) j) r al := fun j y hy => ⟨by rw [swM_138]; exact (hs y hy).1, fun hay => rgAt_142 ((hs y hy).2 hay) (fun i => swM_138 _ _ _ _)⟩
  have u2 := Ur_two (r := r) ha hb hab ala alb
  have u27 := hg.2.2
  unfold wt at u2
  have len44 : (seam r a b).length ≤ 44 := by omega
  have h142 : ∀ i, i < (seam r a b).length → swM m (seam r a b) (seam r a b).length 142 i = o32 ((seam r a b).getD i 0) := fun i hi => by
    unfold swM
    rw [if_pos ⟨rfl, hi⟩]
  obtain ⟨m1, e1, s1, f1⟩ := others_s ha hb hab (S (seam r a b).length) hg len44 h142
  have e10 : swM m (seam r a b) (seam r a b).length 138 10 = m 138 10 := swM_138 _ _ _ _
  rw [e10] at e1
  refine ⟨m1, ?_, s1, fun c j h1 h2 => ?_⟩
  · have L2 : lp (lX9_bursts_76 (o32 a) (o32 b) (o32 ((r b).idxOf a))) fu (o32 ((r a).length - 1), 2, swM m (seam r a b) ((r a).length - 1)) = some (o32 a, mput (burM m1 a b (seam r a b)) 138 10 (m 138 10 + 1)) := by
      have st : (o32 ((r a).length - 1), (2 : Int32), swM m (seam r a b) ((r a).length - 1)) = (fun k => (o32 ((r a).length - 1 + k), o32 (2 + k), swM m (seam r a b) ((r a).length - 1 + k))) 0 := rfl
      rw [st]
      have ex : ∀ k, fX9_sidesOf (o32 b) (swM m (seam r a b) k) = some (o32 (r b).length) := fun k => by rw [sd_o hb, ((S k b hb).2 alb).2.1]
      have e9 : o32 (r b).length - 1 = o32 ((r b).length - 1) := o_sub (b := 1) (by omega) (by omega)
      refine lp_fwd (body := lX9_bursts_76 (o32 a) (o32 b) (o32 ((r b).idxOf a))) ((r b).length - 3) (fun k => (o32 ((r a).length - 1 + k), o32 (2 + k), swM m (seam r a b) ((r a).length - 1 + k))) fu (fun k hk => ?_) ?_ (lt_fu (by omega))
      · unfold lX9_bursts_76
        dsimp only
        rw [ex, Option.bind_some, e9, if_neg (by rw [o_le (by omega) (by omega)]; omega), at_z hb ((S _ b hb).2 alb) pb (by omega), Option.bind_some, if_pos (o_inb (by omega) (by omega)), o_tn (by omega), ← seam_g2 hk, swM_s, o_s, o_s]
        rfl
      · unfold lX9_bursts_76
        dsimp only
        rw [ex, Option.bind_some, e9, if_pos (by rw [o_le (by omega) (by omega)]; omega), ← sl, e1]
        rfl
    have st : ((0 : Int32), (1 : Int32), m) = (fun k => (o32 k, o32 (1 + k), swM m (seam r a b) k)) 0 := by
      show _ = (o32 0, o32 (1 + 0), swM m (seam r a b) 0)
      rw [swM_0]
      rfl
    rw [st]
    have ex : ∀ k, fX9_sidesOf (o32 a) (swM m (seam r a b) k) = some (o32 (r a).length) := fun k => by rw [sd_o ha, ((S k a ha).2 ala).2.1]
    refine lp_fwd (body := lX9_bursts_37 (o32 a) (o32 b) (o32 ((r a).idxOf b)) (o32 ((r b).idxOf a))) ((r a).length - 1) (fun k => (o32 k, o32 (1 + k), swM m (seam r a b) k)) fu (fun k hk => ?_) ?_ (lt_fu (by omega))
    · unfold lX9_bursts_37
      dsimp only
      rw [ex, Option.bind_some, if_neg (by rw [o_le (by omega) (by omega)]; omega), at_z ha ((S _ a ha).2 ala) pa (by omega), Option.bind_some, if_pos (o_inb (by omega) (by omega)), o_tn (by omega), ← seam_g1 hk, swM_s, o_s, o_s]
      rfl
    · unfold lX9_bursts_37
      dsimp only
      rw [ex, Option.bind_some, if_pos (by rw [o_le (by omega) (by omega)]; omega), L2]
      rfl
  · rw [f1 c j h1]
    unfold swM
    rw [if_neg (fun z => h2 z.1)]
theorem bursts_s {m : Mem} {r : Nat → List Nat} {al : Nat → Bool} {a b : Nat} (ha : a < 16) (hb : b < 16) (hab : a ≠ b) (hs : RS m r al) (hg : Gr r al) (ala : al a = true) (alb : al b = true) (hm : max a b ∈ r (min a b)) : ∃ m1, fX9_bursts (o32 a) (o32 b) m = some (o32 (min a b), mput (burM m1 (min a b) (max a b) (seam r (min a b) (max a b))) 138 10 (m 138 10 + 1)) ∧ RS m1 (burX r al (min a b) (max a b) 16) al ∧ (∀ c j, ¬ (c = 138 ∧ ∃ b, b < 16 ∧ 12 + 50 * b + 5 ≤ j ∧ j < 12 + 50 * b + 50) → c ≠ 142 → m1 c j = m c j) := by
  have h1 : min a b < 16 := by omega
  have h2 : max a b < 16 := by omega
  have h3 : min a b ≠ max a b := by omega
  have a1 : al (min a b) = true := by rcases Nat.le_total a b with h | h <;> simp [Nat.min_def] <;> split <;> assumption
  have a2 : al (max a b) = true := by rcases Nat.le_total a b with h | h <;> simp [Nat.max_def] <;> split <;> assumption
  have sa := (hs _ h1).2 a1
  have sb := (hs _ h2).2 a2
  unfold fX9_bursts
  rw [min_o (by omega) (by omega), max_o (by omega) (by omega), placeIn_s h1 (by omega) sa, Option.bind_some, placeIn_s h2 (by omega) sb, Option.bind_some]
  exact bursts_lo h1 h2 h3 hs hg a1 a2 hm
end
section
/-! A BURSTING keeps the graph and the faces -/
theorem nxt_rot {X Y : List Nat} {y : Nat} (hy : y ∈ X ++ Y) (cy : (X ++ Y).count y ≤ 1) : nxt (X ++ Y) y = nxt (Y ++ X) y ∧ prv (X ++ Y) y = prv (Y ++ X) y := by
  rw [List.count_append] at cy
  rcases List.mem_append.mp hy with z | z
  · have h0 := List.count_pos_iff.mpr z
    have hn : y ∉ Y := fun w => by have := List.count_pos_iff.mpr w; omega
    obtain ⟨P, Q, e, h1, h2⟩ := split1 z (by omega)
    rw [e, show P ++ y :: Q ++ Y = P ++ y :: (Q ++ Y) by simp, show Y ++ (P ++ y :: Q) = (Y ++ P) ++ y :: Q by simp, nxt_sp h1, prv_sp h1, nxt_sp (by simp [hn, h1]), prv_sp (by simp [hn, h1])]
    simp
  · have h0 := List.count_pos_iff.mpr z
    have hn : y ∉ X := fun w => by have := List.count_pos_iff.mpr w; omega
    obtain ⟨P, Q, e, h1, h2⟩ := split1 z (by omega)
    rw [e, show X ++ (P ++ y :: Q) = (X ++ P) ++ y :: Q by simp, show P ++ y :: Q ++ X = P ++ y :: (Q ++ X) by simp, nxt_sp h1, prv_sp h1, nxt_sp (by simp [hn, h1]), prv_sp (by simp [hn, h1])]
    simp
theorem seamA_sp {X Y : List Nat} {b : Nat} : seamA (X ++ b :: Y) X.length = Y ++ X := by
  have hl : (X ++ b :: Y).length = X.length + Y.length + 1 := by simp; omega
  unfold seamA
  apply List.ext_getElem?
  intro k
  rw [hl]
  by_cases hk : k < X.length + Y.length
  · rw [List.getElem?_map, List.getElem?_range (by omega)]
    show some ((X ++ b :: Y).getD ((X.length + (1 + k)) % (X.length + Y.length + 1)) 0) = _
    by_cases h2 : k < Y.length
    · rw [Nat.mod_eq_of_lt (by omega), List.getElem?_append_left h2, List.getD_eq_getElem?_getD, List.getElem?_append_right (by omega), show X.length + (1 + k) - X.length = k + 1 by omega, List.getElem?_cons_succ, List.getElem?_eq_getElem h2]
      rfl
    · rw [show X.length + (1 + k) = (k - Y.length) + (X.length + Y.length + 1) by omega, Nat.add_mod_right, Nat.mod_eq_of_lt (by omega), List.getElem?_append_right (by omega), List.getD_eq_getElem?_getD, List.getElem?_append_left (by omega), List.getElem?_eq_getElem (by omega : k - Y.length < X.length)]
      rfl
  · rw [List.getElem?_eq_none (by simp; omega), List.getElem?_eq_none (by simp; omega)]
theorem seamB_A (l : List Nat) (q : Nat) : seamB l q = ((seamA l q).drop 1).take (l.length - 3) := by
  unfold seamA seamB
  apply List.ext_getElem?
  intro k
  by_cases hk : k < l.length - 3
  · rw [List.getElem?_map, List.getElem?_range hk, List.getElem?_take_of_lt hk, List.getElem?_drop, List.getElem?_map, List.getElem?_range (by omega)]
    show some (l.getD ((q + (2 + k)) % l.length) 0) = some (l.getD ((q + (1 + (1 + k))) % l.length) 0)
    rw [show q + (1 + (1 + k)) = q + (2 + k) by omega]
  · rw [List.getElem?_eq_none (by simp; omega), List.getElem?_eq_none (by simp; omega)]
/-- a ring from b on -/
theorem cyc_at {l : List Nat} {b : Nat} (hb : b ∈ l) (cb : l.count b ≤ 1) : ∃ L, seamA l (l.idxOf b) = L ∧ l.length = L.length + 1 ∧ (∀ z, l.count z = (b :: L).count z) ∧ (∀ y, y ∈ l → l.count y ≤ 1 → nxt l y = nxt (b :: L) y ∧ prv l y = prv (b :: L) y) := by
  obtain ⟨X, Y, e, h1, h2⟩ := split1 hb cb
  have hi : l.idxOf b = X.length := by
    rw [e, List.idxOf_append, if_neg h1]
    simp
  refine ⟨Y ++ X, by rw [hi, e]; exact seamA_sp, by rw [e]; simp; omega, fun z => ?_, fun y hy cy => ?_⟩
  · rw [e, List.count_append, List.count_cons, List.count_cons, List.count_append]
    omega
  · rw [e] at hy cy ⊢
    have := nxt_rot hy cy
    exact this
/-- the two rings and the seam of a wall that bursts -/
theorem faces_ab {r : Nat → List Nat} {al : Nat → Bool} {a b : Nat} (ha : a < 16) (hb : b < 16) (hg : Gr r al) (hf : FC r al) (ala : al a = true) (alb : al b = true) (hab : b ∈ r a) (hcd : prv (r a) b ≠ nxt (r a) b) :
    ∃ A B, (∀ z, (r a).count z = (b :: nxt (r a) b :: (A ++ [prv (r a) b])).count z) ∧ (∀ z, (r b).count z = (a :: prv (r a) b :: (B ++ [nxt (r a) b])).count z) ∧ seam r a b = nxt (r a) b :: (A ++ prv (r a) b :: B) ∧
      (∀ y, y ∈ r a → y ≠ 16 → nxt (r a) y = nxt (b :: nxt (r a) b :: (A ++ [prv (r a) b])) y ∧ prv (r a) y = prv (b :: nxt (r a) b :: (A ++ [prv (r a) b])) y) ∧
      (∀ y, y ∈ r b → y ≠ 16 → nxt (r b) y = nxt (a :: prv (r a) b :: (B ++ [nxt (r a) b])) y ∧ prv (r b) y = prv (a :: prv (r a) b :: (B ++ [nxt (r a) b])) y) ∧ (r a).length = A.length + 3 ∧ (r b).length = B.length + 3 := by
  have cnt := hg.2.1
  have ba := (hg.1 a ha ala b hab).2 (by omega)
  have hab2 := ba.2.2
  have f1 : prv (r b) a = nxt (r a) b := (hf a ha ala b hab (by omega)).symm
  have f2 : nxt (r b) a = prv (r a) b := hf b hb alb a hab2 (by omega)
  obtain ⟨La, s1, l1, c1, n1⟩ := cyc_at hab (cnt a ha ala b (by omega))
  obtain ⟨Lb, s2, l2, c2, n2⟩ := cyc_at hab2 (cnt b hb alb a (by omega))
  have q1 := n1 b hab (cnt a ha ala b (by omega))
  have q2 := n2 a hab2 (cnt b hb alb a (by omega))
  have m1 : nxt (b :: La) b = hd (La ++ [b]) := nxt_sp (A := []) (B := La) (by simp)
  have m2 : prv (b :: La) b = hd (La.reverse ++ [b]) := prv_sp (A := []) (B := La) (by simp)
  have m3 : nxt (a :: Lb) a = hd (Lb ++ [a]) := nxt_sp (A := []) (B := Lb) (by simp)
  have m4 : prv (a :: Lb) a = hd (Lb.reverse ++ [a]) := prv_sp (A := []) (B := Lb) (by simp)
  have shape : ∀ (L : List Nat) (x : Nat), hd (L ++ [x]) ≠ hd (L.reverse ++ [x]) → ∃ M, L = hd (L ++ [x]) :: (M ++ [hd (L.reverse ++ [x])]) := by
    intro L x h
    cases L with
    | nil => exact absurd rfl h
    | cons p L =>
      rcases ends L with rfl | ⟨M, z, rfl⟩
      · exact absurd rfl h
      · exact ⟨M, by simp [hd]⟩
  obtain ⟨A, eA⟩ := shape La b (by rw [← m1, ← m2, ← q1.1, ← q1.2]; exact hcd.symm)
  obtain ⟨B, eB⟩ := shape Lb a (by rw [← m3, ← m4, ← q2.1, ← q2.2, f1, f2]; exact hcd)
  rw [← m1, ← m2, ← q1.1, ← q1.2] at eA
  rw [← m3, ← m4, ← q2.1, ← q2.2, f1, f2] at eB
  refine ⟨A, B, fun z => by rw [c1, ← eA], fun z => by rw [c2, ← eB], ?_, fun y hy h16 => by rw [← eA]; exact n1 y hy (cnt a ha ala y h16), fun y hy h16 => by rw [← eB]; exact n2 y hy (cnt b hb alb y h16), by rw [l1, eA]; simp, by rw [l2, eB]; simp⟩
  unfold seam
  rw [seamB_A, s1, s2, l2]
  have e3 : (Lb.drop 1).take (Lb.length + 1 - 3) = B := by
    rw [eB]
    simp
  rw [e3]
  conv => lhs; rw [eA]
  simp
end
section
/-! A BURSTING keeps the graph and the faces, the end of it -/
noncomputable def sg (a b z : Nat) : Nat := if z = b then a else z
theorem sg_b (a b : Nat) : sg a b b = a := if_pos rfl
theorem sg_n {a b z : Nat} (h : z ≠ b) : sg a b z = z := if_neg h
theorem sg_idx {a b : Nat} {l : List Nat} (ha : a ∉ l) {y : Nat} (hy : y ∈ l) : (l.map (sg a b)).idxOf (sg a b y) = l.idxOf y := by
  induction l with
  | nil => cases hy
  | cons z l ih =>
    rw [List.map_cons, List.idxOf_cons, List.idxOf_cons]
    have hza : z ≠ a := fun e => ha (by rw [e]; exact List.mem_cons_self)
    have hya : y ≠ a := fun e => ha (by rw [← e]; exact hy)
    by_cases e : z = y
    · rw [e]; simp
    · have e2 : sg a b z ≠ sg a b y := by
        unfold sg
        split <;> split <;> omega
      rw [beq_false_of_ne e, beq_false_of_ne e2]
      have : y ∈ l := by
        rcases List.mem_cons.mp hy with h | h
        · exact absurd h.symm e
        · exact h
      simp only [cond_false]
      rw [ih (fun h => ha (List.mem_cons_of_mem _ h)) this]
theorem sg_nxt {a b : Nat} {l : List Nat} (ha : a ∉ l) {y : Nat} (hy : y ∈ l) : nxt (l.map (sg a b)) (sg a b y) = sg a b (nxt l y) ∧ prv (l.map (sg a b)) (sg a b y) = sg a b (prv l y) := by
  have hl : 0 < l.length := List.length_pos_of_mem hy
  have g : ∀ i, i < l.length → (l.map (sg a b)).getD i 0 = sg a b (l.getD i 0) := fun i hi => by
    rw [List.getD_eq_getElem?_getD, List.getElem?_map, List.getD_eq_getElem?_getD, List.getElem?_eq_getElem hi]
    rfl
  unfold nxt prv
  rw [sg_idx ha hy, List.length_map]
  exact ⟨g _ (Nat.mod_lt _ hl), g _ (Nat.mod_lt _ hl)⟩
theorem stand_map {l : List Nat} {a b : Nat} (ha : a ∉ l) (hb : b ∈ l) (cb : l.count b ≤ 1) : stand l a b = l.map (sg a b) := by
  unfold stand
  rw [if_neg ha]
  obtain ⟨P, Q, e, h1, h2⟩ := split1 hb cb
  have m : ∀ X : List Nat, b ∉ X → X.map (sg a b) = X := fun X h => by
    have : X.map (sg a b) = X.map id := List.map_congr_left (fun z hz => sg_n (fun e => h (by rw [← e]; exact hz)))
    rw [this, List.map_id]
  rw [e, List.idxOf_append, if_neg h1, List.map_append, List.map_cons, m P h1, m Q h2, sg_b]
  simp
theorem hdc (A : List Nat) (c : Nat) (X : List Nat) : hd (A ++ c :: X) = hd (A ++ [c]) := by cases A <;> rfl
theorem seam_l {A B : List Nat} {a b c d y : Nat} (ca : (b :: d :: (A ++ [c])).count y ≤ 1) (cb : (a :: c :: (B ++ [d])).count y ≤ 1) (cs : (d :: (A ++ c :: B)).count y ≤ 1) :
    (y = d → nxt (d :: (A ++ c :: B)) y = nxt (b :: d :: (A ++ [c])) y ∧ prv (d :: (A ++ c :: B)) y = prv (a :: c :: (B ++ [d])) y) ∧
    (y ∈ A → nxt (d :: (A ++ c :: B)) y = nxt (b :: d :: (A ++ [c])) y ∧ prv (d :: (A ++ c :: B)) y = prv (b :: d :: (A ++ [c])) y) ∧
    (y = c → nxt (d :: (A ++ c :: B)) y = nxt (a :: c :: (B ++ [d])) y ∧ prv (d :: (A ++ c :: B)) y = prv (b :: d :: (A ++ [c])) y) ∧
    (y ∈ B → nxt (d :: (A ++ c :: B)) y = nxt (a :: c :: (B ++ [d])) y ∧ prv (d :: (A ++ c :: B)) y = prv (a :: c :: (B ++ [d])) y) := by
  have nc : ∀ X : List Nat, X.count y = 0 → y ∉ X := fun X h w => by have := List.count_pos_iff.mpr w; omega
  simp only [List.count_cons, List.count_append, List.count_nil, beq_iff_eq] at ca cb cs
  refine ⟨fun e => ?_, fun hm => ?_, fun e => ?_, fun hm => ?_⟩
  · subst e
    simp only [if_true] at ca cb cs
    have n1 : y ∉ [b] := nc _ (by simp only [List.count_cons, List.count_nil, beq_iff_eq]; omega)
    have n2 : y ∉ a :: c :: B := nc _ (by simp only [List.count_cons, List.count_nil, beq_iff_eq]; omega)
    constructor
    · rw [show y :: (A ++ c :: B) = [] ++ y :: (A ++ c :: B) from rfl, nxt_sp (by simp), show b :: y :: (A ++ [c]) = [b] ++ y :: (A ++ [c]) from rfl, nxt_sp n1]
      simp only [List.nil_append, List.append_assoc, List.cons_append]
      exact (hdc _ _ _).trans (hdc _ _ _).symm
    · rw [show y :: (A ++ c :: B) = [] ++ y :: (A ++ c :: B) from rfl, prv_sp (by simp), show a :: c :: (B ++ [y]) = (a :: c :: B) ++ y :: [] by simp, prv_sp n2]
      simp only [List.reverse_cons, List.reverse_append, List.reverse_nil, List.nil_append, List.append_assoc, List.cons_append]
      exact (hdc _ _ _).trans (hdc _ _ _).symm
  · have hp := List.count_pos_iff.mpr hm
    obtain ⟨P, Q, e, h1, h2⟩ := split1 hm (by omega)
    have n1 : y ∉ d :: P := by
      intro w
      rcases List.mem_cons.mp w with w | w
      · rw [if_pos w.symm] at cs; omega
      · exact h1 w
    have n2 : y ∉ b :: d :: P := by
      intro w
      rcases List.mem_cons.mp w with w | w
      · rw [if_pos w.symm] at ca; omega
      · exact n1 w
    rw [e, show d :: (P ++ y :: Q ++ c :: B) = (d :: P) ++ y :: (Q ++ c :: B) by simp, show b :: d :: (P ++ y :: Q ++ [c]) = (b :: d :: P) ++ y :: (Q ++ [c]) by simp, nxt_sp n1, nxt_sp n2, prv_sp n1, prv_sp n2]
    constructor
    · simp only [List.append_assoc, List.cons_append]
      exact (hdc _ _ _).trans (hdc _ _ _).symm
    · simp only [List.reverse_cons, List.append_assoc, List.cons_append]
      exact (hdc _ _ _).trans (hdc _ _ _).symm
  · subst e
    simp only [if_true] at ca cb cs
    have n1 : y ∉ d :: A := nc _ (by simp only [List.count_cons, beq_iff_eq]; omega)
    have n2 : y ∉ b :: d :: A := nc _ (by simp only [List.count_cons, beq_iff_eq]; omega)
    have n3 : y ∉ [a] := nc _ (by simp only [List.count_cons, List.count_nil, beq_iff_eq]; omega)
    constructor
    · rw [show d :: (A ++ y :: B) = (d :: A) ++ y :: B by simp, nxt_sp n1, show a :: y :: (B ++ [d]) = [a] ++ y :: (B ++ [d]) from rfl, nxt_sp n3]
      simp only [List.append_assoc, List.cons_append]
      exact (hdc _ _ _).trans (hdc _ _ _).symm
    · rw [show d :: (A ++ y :: B) = (d :: A) ++ y :: B by simp, prv_sp n1, show b :: d :: (A ++ [y]) = (b :: d :: A) ++ y :: [] by simp, prv_sp n2]
      simp only [List.reverse_cons, List.append_assoc, List.cons_append]
      exact (hdc _ _ _).trans (hdc _ _ _).symm
  · have hp := List.count_pos_iff.mpr hm
    obtain ⟨P, Q, e, h1, h2⟩ := split1 hm (by omega)
    have n1 : y ∉ d :: (A ++ c :: P) := by
      intro w
      rcases List.mem_cons.mp w with w | w
      · rw [if_pos w.symm] at cs; omega
      · rcases List.mem_append.mp w with w | w
        · have := List.count_pos_iff.mpr w; omega
        · rcases List.mem_cons.mp w with w | w
          · rw [if_pos w.symm] at cs; omega
          · exact h1 w
    have n2 : y ∉ a :: c :: P := by
      intro w
      rcases List.mem_cons.mp w with w | w
      · rw [if_pos w.symm] at cb; omega
      · exact n1 (List.mem_cons_of_mem _ (List.mem_append_right _ w))
    rw [e, show d :: (A ++ c :: (P ++ y :: Q)) = (d :: (A ++ c :: P)) ++ y :: Q by simp, show a :: c :: (P ++ y :: Q ++ [d]) = (a :: c :: P) ++ y :: (Q ++ [d]) by simp, nxt_sp n1, nxt_sp n2, prv_sp n1, prv_sp n2]
    constructor
    · simp only [List.append_assoc, List.cons_append]
      exact (hdc _ _ _).trans (hdc _ _ _).symm
    · simp only [List.reverse_cons, List.reverse_append, List.append_assoc, List.cons_append]
      exact (hdc _ _ _).trans (hdc _ _ _).symm
end
section
theorem bur_core {r : Nat → List Nat} {al : Nat → Bool} {a b : Nat} (ha : a < 16) (hb : b < 16) (hg : Gr r al) (hf : FC r al) (ala : al a = true) (alb : al b = true) (hab : b ∈ r a) (hcd : prv (r a) b ≠ nxt (r a) b) (hc : ∀ x, x ∈ r a → x ∈ r b → x = prv (r a) b ∨ x = nxt (r a) b) :
    (∀ y, y ∈ seam r a b ↔ (y ∈ r a ∧ y ≠ b) ∨ (y ∈ r b ∧ y ≠ a)) ∧ (∀ y, y ≠ 16 → (seam r a b).count y ≤ 1) ∧
      (∀ y, y ≠ 16 → y ∈ r a → y ≠ b → y ≠ prv (r a) b → nxt (seam r a b) y = nxt (r a) y) ∧
      (∀ y, y ≠ 16 → y ∈ r a → y ≠ b → y ≠ nxt (r a) b → prv (seam r a b) y = prv (r a) y) ∧
      (∀ y, y ≠ 16 → y ∈ r b → y ≠ a → y ≠ nxt (r a) b → nxt (seam r a b) y = nxt (r b) y) ∧
      (∀ y, y ≠ 16 → y ∈ r b → y ≠ a → y ≠ prv (r a) b → prv (seam r a b) y = prv (r b) y) := by
  have cnt := hg.2.1
  obtain ⟨A, B, cA, cB, es, nA, nB, _, _⟩ := faces_ab ha hb hg hf ala alb hab hcd
  have c1 := fun y (h : y ≠ 16) => cnt a ha ala y h
  have c2 := fun y (h : y ≠ 16) => cnt b hb alb y h
  generalize prv (r a) b = c at *
  generalize nxt (r a) b = d at *
  rw [es]
  have mA : ∀ y, y ∈ r a ↔ y = b ∨ y = d ∨ y ∈ A ∨ y = c := fun y => by
    rw [← List.count_pos_iff, cA y, List.count_pos_iff]; simp
  have mB : ∀ y, y ∈ r b ↔ y = a ∨ y = c ∨ y ∈ B ∨ y = d := fun y => by
    rw [← List.count_pos_iff, cB y, List.count_pos_iff]; simp
  have k1 : ∀ y, y ≠ 16 → A.count y + (if c = y then 1 else 0) + (if d = y then 1 else 0) + (if b = y then 1 else 0) ≤ 1 := fun y hy => by
    have := c1 y hy
    rw [cA y] at this
    simp only [List.count_cons, List.count_append, List.count_nil, beq_iff_eq] at this
    omega
  have k2 : ∀ y, y ≠ 16 → B.count y + (if d = y then 1 else 0) + (if c = y then 1 else 0) + (if a = y then 1 else 0) ≤ 1 := fun y hy => by
    have := c2 y hy
    rw [cB y] at this
    simp only [List.count_cons, List.count_append, List.count_nil, beq_iff_eq] at this
    omega
  have kb := k1 b (by omega)
  have ka := k2 a (by omega)
  rw [if_pos rfl] at kb ka
  have db : d ≠ b := fun e => by rw [if_pos e] at kb; omega
  have cb : c ≠ b := fun e => by rw [if_pos e] at kb; omega
  have da : d ≠ a := fun e => by rw [if_pos e] at ka; omega
  have ca : c ≠ a := fun e => by rw [if_pos e] at ka; omega
  have bA : b ∉ A := fun w => by have := List.count_pos_iff.mpr w; omega
  have aB : a ∉ B := fun w => by have := List.count_pos_iff.mpr w; omega
  have K : ∀ y, y ≠ 16 → (d :: (A ++ c :: B)).count y ≤ 1 := fun y hy => by
    have h1 := k1 y hy
    have h2 := k2 y hy
    simp only [List.count_cons, List.count_append, beq_iff_eq]
    by_cases w1 : y ∈ A
    · by_cases w2 : y ∈ B
      · have p1 := List.count_pos_iff.mpr w1
        rcases hc y ((mA y).mpr (by simp [w1])) ((mB y).mpr (by simp [w2])) with e | e
        · rw [if_pos e.symm] at h1; omega
        · rw [if_pos e.symm] at h1; omega
      · have := List.count_eq_zero_of_not_mem w2; omega
    · have := List.count_eq_zero_of_not_mem w1; omega
  have L := fun y hy => seam_l (A := A) (B := B) (a := a) (b := b) (c := c) (d := d) (y := y) (by rw [← cA y]; exact c1 y hy) (by rw [← cB y]; exact c2 y hy) (K y hy)
  refine ⟨fun y => ?_, K, fun y h16 hy hyb hyc => ?_, fun y h16 hy hyb hyd => ?_, fun y h16 hy hya hyd => ?_, fun y h16 hy hya hyc => ?_⟩
  · rw [mA, mB]
    simp only [List.mem_cons, List.mem_append]
    constructor
    · rintro (h | h | h | h)
      · exact .inl ⟨.inr (.inl h), by rw [h]; exact db⟩
      · exact .inl ⟨.inr (.inr (.inl h)), fun e => bA (by rw [← e]; exact h)⟩
      · exact .inl ⟨.inr (.inr (.inr h)), by rw [h]; exact cb⟩
      · exact .inr ⟨.inr (.inr (.inl h)), fun e => aB (by rw [← e]; exact h)⟩
    · rintro (⟨h | h | h | h, n⟩ | ⟨h | h | h | h, n⟩)
      · exact absurd h n
      · exact .inl h
      · exact .inr (.inl h)
      · exact .inr (.inr (.inl h))
      · exact absurd h n
      · exact .inr (.inr (.inl h))
      · exact .inr (.inr (.inr h))
      · exact .inl h
  · rw [(nA y hy h16).1]
    rcases (mA y).mp hy with h | h | h | h
    · exact absurd h hyb
    · exact ((L y h16).1 h).1
    · exact ((L y h16).2.1 h).1
    · exact absurd h hyc
  · rw [(nA y hy h16).2]
    rcases (mA y).mp hy with h | h | h | h
    · exact absurd h hyb
    · exact absurd h hyd
    · exact ((L y h16).2.1 h).2
    · exact ((L y h16).2.2.1 h).2
  · rw [(nB y hy h16).1]
    rcases (mB y).mp hy with h | h | h | h
    · exact absurd h hya
    · exact ((L y h16).2.2.1 h).1
    · exact ((L y h16).2.2.2 h).1
    · exact absurd h hyd
  · rw [(nB y hy h16).2]
    rcases (mB y).mp hy with h | h | h | h
    · exact absurd h hya
    · exact absurd h hyc
    · exact ((L y h16).2.2.2 h).2
    · exact ((L y h16).1 h).2
/-- the rings behind a bursting -/
noncomputable def burR (r : Nat → List Nat) (al : Nat → Bool) (a b : Nat) : Nat → List Nat := setR (burX r al a b 16) a (seam r a b)
theorem burR_at {r : Nat → List Nat} {al : Nat → Bool} {a b x : Nat} (hx : x < 16) (hxa : x ≠ a) (hxb : x ≠ b) (hal : al x = true) : burR r al a b x = if b ∈ r x then stand (r x) a b else r x := by
  unfold burR
  rw [setR_ne _ _ hxa]
  unfold burX
  by_cases h : b ∈ r x
  · rw [if_pos ⟨hx, hxa, hxb, hal, h⟩, if_pos h]
  · rw [if_neg (fun z => h z.2.2.2.2), if_neg h]
theorem sg_mem {l : List Nat} {a b : Nat} (hb : b ∈ l) (y : Nat) : y ∈ l.map (sg a b) ↔ (y ∈ l ∧ y ≠ b) ∨ y = a := by
  rw [List.mem_map]
  constructor
  · rintro ⟨z, h1, h2⟩
    by_cases e : z = b
    · rw [e, sg_b] at h2; exact .inr h2.symm
    · rw [sg_n e] at h2; exact .inl (by rw [← h2]; exact ⟨h1, e⟩)
  · rintro (⟨h1, h2⟩ | h)
    · exact ⟨y, h1, sg_n h2⟩
    · exact ⟨b, hb, by rw [h, sg_b]⟩
theorem burR_mem {r : Nat → List Nat} {al : Nat → Bool} {a b x : Nat} (hg : Gr r al) (hb : b < 16) (hab : a ≠ b) (hx : x < 16) (hxa : x ≠ a) (hxb : x ≠ b) (hal : al x = true) (y : Nat) : y ∈ burR r al a b x ↔ y ≠ b ∧ (y ∈ r x ∨ (y = a ∧ b ∈ r x)) := by
  rw [burR_at hx hxa hxb hal]
  by_cases h : b ∈ r x
  · rw [if_pos h]
    by_cases ha : a ∈ r x
    · unfold stand
      rw [if_pos ha, rmv_mem (hg.2.1 x hx hal b (by omega))]
      constructor
      · exact fun w => ⟨w.2, .inl w.1⟩
      · rintro ⟨h1, h2 | ⟨e, _⟩⟩
        · exact ⟨h2, h1⟩
        · exact ⟨by rw [e]; exact ha, h1⟩
    · rw [stand_map ha h (hg.2.1 x hx hal b (by omega)), sg_mem h]
      constructor
      · rintro (⟨h1, h2⟩ | e)
        · exact ⟨h2, .inl h1⟩
        · exact ⟨by rw [e]; exact hab, .inr ⟨e, h⟩⟩
      · rintro ⟨h1, h2 | ⟨e, _⟩⟩
        · exact .inl ⟨h2, h1⟩
        · exact .inr e
  · rw [if_neg h]
    constructor
    · exact fun w => ⟨fun e => h (by rw [← e]; exact w), .inl w⟩
    · rintro ⟨_, w | ⟨_, w⟩⟩
      · exact w
      · exact absurd w h
theorem offB_t {al : Nat → Bool} {a b : Nat} : offB al a b = true ↔ al b = true ∧ b ≠ a := by
  unfold offB
  by_cases e : b = a
  · rw [if_pos e]; exact ⟨fun h => (by cases h), fun h => absurd e h.2⟩
  · rw [if_neg e]; exact ⟨fun h => ⟨h, e⟩, fun h => h.1⟩
theorem stand_len (l : List Nat) (a b : Nat) : (stand l a b).length ≤ l.length := by
  unfold stand
  split
  · unfold rmv
    rw [List.length_eraseIdx]
    split <;> omega
  · rw [List.length_set]; exact Nat.le_refl _
theorem stand_wt (l : List Nat) (a b : Nat) (h16 : a ≠ 16) : wt (stand l a b) ≤ wt l := by
  have h := stand_len l a b
  have c : (stand l a b).count 16 ≤ l.count 16 := by
    unfold stand
    split
    · rw [rmv_count]; omega
    · by_cases hb : l.idxOf b < l.length
      · rw [List.count_set (by exact hb), beq_false_of_ne h16]
        simp
      · rw [List.set_eq_of_length_le (by omega)]
        exact Nat.le_refl _
  unfold wt
  omega
theorem sg_count {l : List Nat} {a b : Nat} (ha : a ∉ l) (y : Nat) (hc : l.count y ≤ 1) (cb : l.count b ≤ 1) : (l.map (sg a b)).count y ≤ 1 := by
  by_cases hb : b ∈ l
  · obtain ⟨P, Q, e, h1, h2⟩ := split1 hb cb
    have m : ∀ X : List Nat, b ∉ X → X.map (sg a b) = X := fun X h => by
      have : X.map (sg a b) = X.map id := List.map_congr_left (fun z hz => sg_n (fun e => h (by rw [← e]; exact hz)))
      rw [this, List.map_id]
    rw [e, List.map_append, List.map_cons, m P h1, m Q h2, sg_b]
    rw [e] at hc ha
    simp only [List.count_append, List.count_cons, beq_iff_eq] at hc ⊢
    by_cases ey : a = y
    · have z1 : y ∉ P := fun w => ha (by rw [ey]; simp [w])
      have z2 : y ∉ Q := fun w => ha (by rw [ey]; simp [w])
      rw [List.count_eq_zero_of_not_mem z1, List.count_eq_zero_of_not_mem z2]
      split <;> omega
    · rw [if_neg ey]
      omega
  · have : l.map (sg a b) = l := by
      have : l.map (sg a b) = l.map id := List.map_congr_left (fun z hz => sg_n (fun e => hb (by rw [← e]; exact hz)))
      rw [this, List.map_id]
    rw [this]; exact hc
theorem burst_Gr {r : Nat → List Nat} {al : Nat → Bool} {a b : Nat} (ha : a < 16) (hb : b < 16) (hne : a ≠ b) (hg : Gr r al) (hf : FC r al) (ala : al a = true) (alb : al b = true) (hab : b ∈ r a) (hcd : prv (r a) b ≠ nxt (r a) b) (hc : ∀ x, x ∈ r a → x ∈ r b → x = prv (r a) b ∨ x = nxt (r a) b) : Gr (burR r al a b) (offB al b) := by
  obtain ⟨C1, C2, _⟩ := bur_core ha hb hg hf ala alb hab hcd hc
  have ea : burR r al a b a = seam r a b := setR_at _ _ _
  have M := fun x (hx : x < 16) (hxa : x ≠ a) (hxb : x ≠ b) (hal : al x = true) => burR_mem (a := a) hg hb hne hx hxa hxb hal
  refine ⟨fun x hx hxo y hy => ?_, fun x hx hxo y hy => ?_, ?_⟩
  · obtain ⟨hal, hxb⟩ := offB_t.mp hxo
    by_cases hxa : x = a
    · subst hxa
      rw [ea] at hy
      rcases (C1 y).mp hy with ⟨h1, h2⟩ | ⟨h1, h2⟩
      · have p := hg.1 x hx hal y h1
        refine ⟨p.1, fun h16 => ?_⟩
        have q := p.2 h16
        exact ⟨offB_t.mpr ⟨q.1, h2⟩, q.2.1, (M y (by omega) q.2.1 h2 q.1 x).mpr ⟨hne, .inl q.2.2⟩⟩
      · have p := hg.1 b hb alb y h1
        refine ⟨p.1, fun h16 => ?_⟩
        have q := p.2 h16
        exact ⟨offB_t.mpr ⟨q.1, q.2.1⟩, h2, (M y (by omega) h2 q.2.1 q.1 x).mpr ⟨hne, .inr ⟨rfl, q.2.2⟩⟩⟩
    · obtain ⟨h1, h2⟩ := (M x hx hxa hxb hal y).mp hy
      by_cases hya : y = a
      · subst hya
        refine ⟨by omega, fun _ => ⟨offB_t.mpr ⟨ala, hne⟩, Ne.symm hxa, ?_⟩⟩
        rw [ea]
        refine (C1 x).mpr ?_
        rcases h2 with h2 | ⟨_, h2⟩
        · exact .inl ⟨((hg.1 x hx hal y h2).2 (by omega)).2.2, hxb⟩
        · exact .inr ⟨((hg.1 x hx hal b h2).2 (by omega)).2.2, hxa⟩
      · have h3 : y ∈ r x := by
          rcases h2 with h2 | ⟨h2, _⟩
          · exact h2
          · exact absurd h2 hya
        have p := hg.1 x hx hal y h3
        refine ⟨p.1, fun h16 => ?_⟩
        have q := p.2 h16
        exact ⟨offB_t.mpr ⟨q.1, h1⟩, q.2.1, (M y (by omega) hya h1 q.1 x).mpr ⟨hxb, .inl q.2.2⟩⟩
  · obtain ⟨hal, hxb⟩ := offB_t.mp hxo
    by_cases hxa : x = a
    · rw [hxa, ea]; exact C2 y hy
    · rw [burR_at hx hxa hxb hal]
      have c0 := hg.2.1 x hx hal y hy
      split
      · next h =>
        by_cases hax : a ∈ r x
        · unfold stand
          rw [if_pos hax, rmv_count]; omega
        · rw [stand_map hax h (hg.2.1 x hx hal b (by omega))]
          exact sg_count hax y c0 (hg.2.1 x hx hal b (by omega))
      · exact c0
  · obtain ⟨A, B, cA, cB, es, _, _, la, lb⟩ := faces_ab ha hb hg hf ala alb hab hcd
    have u1 := Ur_set (r := r) (l := seam r a b) ha ala
    have u2 := Ur_set (r := setR r a (seam r a b)) (l := []) hb alb
    rw [setR_ne _ _ hne.symm] at u2
    have l0 : wt [] = 0 := rfl
    have ls := seam_len r a b
    have ws : wt (seam r a b) ≤ wt (r a) + wt (r b) := by
      have k1 := cA 16
      have k2 := cB 16
      have k3 : (seam r a b).count 16 ≤ (r a).count 16 + (r b).count 16 := by
        rw [k1, k2, es]
        simp only [List.count_cons, List.count_append, List.count_nil, beq_iff_eq]
        omega
      unfold wt
      omega
    have u0 := hg.2.2
    have : Ur (burR r al a b) (offB al b) ≤ Ur (setR (setR r a (seam r a b)) b []) al := by
      refine sum_le 16 (fun x hx => ?_)
      by_cases hxb : x = b
      · have : offB al b x = false := by unfold offB; rw [if_pos hxb]
        rw [this]; exact Nat.zero_le _
      · by_cases hal : al x = true
        · rw [offB_t.mpr ⟨hal, hxb⟩, hal, if_pos rfl, if_pos rfl, setR_ne _ _ hxb]
          by_cases hxa : x = a
          · rw [hxa, ea, setR_at]; exact Nat.le_refl _
          · rw [setR_ne _ _ hxa, burR_at hx hxa hxb hal]
            split
            · exact stand_wt _ _ _ (by omega)
            · exact Nat.le_refl _
        · have : offB al b x = false := by unfold offB; rw [if_neg hxb]; simpa using hal
          rw [this]; exact Nat.zero_le _
    omega
end
section
theorem burst_FC {r : Nat → List Nat} {al : Nat → Bool} {a b : Nat} (ha : a < 16) (hb : b < 16) (hne : a ≠ b) (hg : Gr r al) (hf : FC r al) (ala : al a = true) (alb : al b = true) (hab : b ∈ r a) (hcd : prv (r a) b ≠ nxt (r a) b) (hc : ∀ x, x ∈ r a → x ∈ r b → x = prv (r a) b ∨ x = nxt (r a) b) : FC (burR r al a b) (offB al b) := by
  obtain ⟨C1, C2, C3, C4, C5, C6⟩ := bur_core ha hb hg hf ala alb hab hcd hc
  have cnt := hg.2.1
  have ea : burR r al a b a = seam r a b := setR_at _ _ _
  have M := fun x (hx : x < 16) (hxa : x ≠ a) (hxb : x ≠ b) (hal : al x = true) => burR_mem (a := a) hg hb hne hx hxa hxb hal
  have T := fun x (hx : x < 16) (hxa : x ≠ a) (hxb : x ≠ b) (hal : al x = true) => burR_at (r := r) (a := a) hx hxa hxb hal
  have aa : a ∉ r a := fun w => ((hg.1 a ha ala a w).2 (by omega)).2.1 rfl
  have bb : b ∉ r b := fun w => ((hg.1 b hb alb b w).2 (by omega)).2.1 rfl
  have hba : a ∈ r b := ((hg.1 a ha ala b hab).2 (by omega)).2.2
  have f1 : prv (r b) a = nxt (r a) b := (hf a ha ala b hab (by omega)).symm
  have f2 : nxt (r b) a = prv (r a) b := hf b hb alb a hba (by omega)
  -- a third one that is beside both: where a and b lie in its ring
  have two : ∀ x, x < 16 → al x = true → a ∈ r x → b ∈ r x → (x = prv (r a) b ∧ nxt (r x) b = a) ∨ (x = nxt (r a) b ∧ nxt (r x) a = b) := fun x hx hal h1 h2 => by
    have m1 := ((hg.1 x hx hal a h1).2 (by omega)).2.2
    have m2 := ((hg.1 x hx hal b h2).2 (by omega)).2.2
    rcases hc x m1 m2 with e | e
    · refine .inl ⟨e, ?_⟩
      have q : nxt (r a) x = b := (nxt_prv hab m1 (cnt a ha ala b (by omega)) (cnt a ha ala x (by omega))).mpr e.symm
      have q2 : prv (r x) a = b := by rw [← hf a ha ala x m1 (by omega)]; exact q
      exact (nxt_prv h1 h2 (cnt x hx hal a (by omega)) (cnt x hx hal b (by omega))).mpr q2
    · refine .inr ⟨e, ?_⟩
      have q : prv (r a) x = b := (nxt_prv m1 hab (cnt a ha ala x (by omega)) (cnt a ha ala b (by omega))).mp e.symm
      rw [hf x hx hal a h1 (by omega)]; exact q
  intro x hx hxo y hy h16
  obtain ⟨hal, hxb⟩ := offB_t.mp hxo
  by_cases hxa : x = a
  · -- from the merged one to y
    subst hxa
    rw [ea] at hy ⊢
    have py : y < 16 ∧ al y = true ∧ y ≠ x ∧ y ≠ b := by
      rcases (C1 y).mp hy with ⟨h1, h2⟩ | ⟨h1, h2⟩
      · have p := hg.1 x hx hal y h1
        have q := p.2 h16
        exact ⟨by omega, q.1, q.2.1, h2⟩
      · have p := hg.1 b hb alb y h1
        have q := p.2 h16
        exact ⟨by omega, q.1, h2, q.2.1⟩
    obtain ⟨y16, aly, yx, yb⟩ := py
    rw [T y y16 yx yb aly]
    by_cases h1 : y ∈ r x
    · have x1 := ((hg.1 x hx hal y h1).2 h16).2.2
      by_cases h2 : y ∈ r b
      · have x2 := ((hg.1 b hb alb y h2).2 h16).2.2
        rw [if_pos x2]
        unfold stand
        rw [if_pos x1, prv_rmv x2 x1 (Ne.symm hne) (cnt y y16 aly b (by omega)) (cnt y y16 aly x (by omega))]
        rcases two y y16 aly x1 x2 with ⟨e, t⟩ | ⟨e, t⟩
        · rw [if_pos ((nxt_prv x1 x2 (cnt y y16 aly x (by omega)) (cnt y y16 aly b (by omega))).mp t), C5 y h16 h2 yx (by rw [e]; exact hcd), hf b hb alb y h2 h16]
        · have n : prv (r y) x ≠ b := fun w => by
            rw [← hf x hx hal y h1 h16] at w
            have := (nxt_prv hab h1 (cnt x hx hal b (by omega)) (cnt x hx hal y h16)).mp w
            exact hcd (by rw [this]; exact e)
          rw [if_neg n, C3 y h16 h1 yb (by rw [e]; exact hcd.symm), hf x hx hal y h1 h16]
      · have x2 : b ∉ r y := fun w => h2 ((hg.1 y y16 aly b w).2 (by omega)).2.2
        rw [if_neg x2, C3 y h16 h1 yb (fun e => h2 (by rw [e, ← f2]; exact nxt_mem hba)), hf x hx hal y h1 h16]
    · have h2 : y ∈ r b := by
        rcases (C1 y).mp hy with ⟨w, _⟩ | ⟨w, _⟩
        · exact absurd w h1
        · exact w
      have x1 : x ∉ r y := fun w => h1 ((hg.1 y y16 aly x w).2 (by omega)).2.2
      have x2 := ((hg.1 b hb alb y h2).2 h16).2.2
      rw [if_pos x2, stand_map x1 x2 (cnt y y16 aly b (by omega)), C5 y h16 h2 yx (fun e => h1 (by rw [e]; exact nxt_mem hab)), hf b hb alb y h2 h16]
      have s := (sg_nxt (b := b) x1 x2).2
      rw [sg_b] at s
      rw [s, sg_n]
      rw [← hf b hb alb y h2 h16]
      exact fun w => by
        have z := nxt_mem h2
        rw [w] at z
        exact bb z
  · obtain ⟨yb, my⟩ := (M x hx hxa hxb hal y).mp hy
    rw [T x hx hxa hxb hal]
    by_cases hya : y = a
    · -- from x to the merged one
      subst hya
      rw [ea]
      by_cases h1 : y ∈ r x
      · have x1 := ((hg.1 x hx hal y h1).2 h16).2.2
        by_cases h2 : b ∈ r x
        · have x2 := ((hg.1 x hx hal b h2).2 (by omega)).2.2
          rw [if_pos h2]
          unfold stand
          rw [if_pos h1, nxt_rmv h2 h1 (Ne.symm hne) (cnt x hx hal b (by omega)) (cnt x hx hal y h16)]
          rcases two x hx hal h1 h2 with ⟨e, t⟩ | ⟨e, t⟩
          · have n : nxt (r x) y ≠ b := fun w => by
              rw [hf x hx hal y h1 h16] at w
              have := (nxt_prv x1 hab (cnt y ha ala x (by omega)) (cnt y ha ala b (by omega))).mpr w
              exact hcd (by rw [this]; exact e.symm)
            rw [if_neg n, C4 x (by omega) x1 hxb (by rw [e]; exact hcd), hf x hx hal y h1 h16]
          · rw [if_pos t, C6 x (by omega) x2 hxa (by rw [e]; exact hcd.symm), hf x hx hal b h2 (by omega)]
        · have x2 : x ∉ r b := fun w => h2 ((hg.1 b hb alb x w).2 (by omega)).2.2
          rw [if_neg h2, C4 x (by omega) x1 hxb (fun e => x2 (by rw [e, ← f1]; exact prv_mem hba)), hf x hx hal y h1 h16]
      · have h2 : b ∈ r x := by
          rcases my with w | ⟨_, w⟩
          · exact absurd w h1
          · exact w
        have x1 : x ∉ r y := fun w => h1 ((hg.1 y ha ala x w).2 (by omega)).2.2
        have x2 := ((hg.1 x hx hal b h2).2 (by omega)).2.2
        rw [if_pos h2, stand_map h1 h2 (cnt x hx hal b (by omega)), C6 x (by omega) x2 hxa (fun e => x1 (by rw [e]; exact prv_mem hab)), ← hf x hx hal b h2 (by omega)]
        have s := (sg_nxt (b := b) h1 h2).1
        rw [sg_b] at s
        rw [s, sg_n]
        rw [hf x hx hal b h2 (by omega)]
        exact fun w => by
          have z := prv_mem x2
          rw [w] at z
          exact bb z
    · -- two others
      have h3 : y ∈ r x := by
        rcases my with w | ⟨w, _⟩
        · exact w
        · exact absurd w hya
      have p := hg.1 x hx hal y h3
      have q := p.2 h16
      have y16 : y < 16 := by omega
      rw [T y y16 hya yb q.1]
      have N : nxt (if b ∈ r x then stand (r x) a b else r x) y = sg a b (nxt (r x) y) := by
        by_cases h2 : b ∈ r x
        · rw [if_pos h2]
          by_cases h1 : a ∈ r x
          · unfold stand
            rw [if_pos h1, nxt_rmv h2 h3 (Ne.symm yb) (cnt x hx hal b (by omega)) (cnt x hx hal y h16)]
            unfold sg
            by_cases t : nxt (r x) y = b
            · rw [if_pos t, if_pos t]
              rcases two x hx hal h1 h2 with ⟨_, t2⟩ | ⟨_, t2⟩
              · exact t2
              · exfalso
                have u1 := (nxt_prv h2 h3 (cnt x hx hal b (by omega)) (cnt x hx hal y h16)).mp t
                have u2 := (nxt_prv h2 h1 (cnt x hx hal b (by omega)) (cnt x hx hal a (by omega))).mp t2
                exact hya (by rw [← u1, u2])
            · rw [if_neg t, if_neg t]
          · rw [stand_map h1 h2 (cnt x hx hal b (by omega))]
            have s := (sg_nxt (b := b) h1 h3).1
            rw [sg_n yb] at s
            exact s
        · rw [if_neg h2, sg_n (fun w => h2 (by rw [← w]; exact nxt_mem h3))]
      have P : prv (if b ∈ r y then stand (r y) a b else r y) x = sg a b (prv (r y) x) := by
        have h3' := q.2.2
        by_cases h2 : b ∈ r y
        · rw [if_pos h2]
          by_cases h1 : a ∈ r y
          · unfold stand
            rw [if_pos h1, prv_rmv h2 h3' (Ne.symm hxb) (cnt y y16 q.1 b (by omega)) (cnt y y16 q.1 x (by omega))]
            unfold sg
            by_cases t : prv (r y) x = b
            · rw [if_pos t, if_pos t]
              rcases two y y16 q.1 h1 h2 with ⟨_, t2⟩ | ⟨_, t2⟩
              · exfalso
                have u1 := (nxt_prv h3' h2 (cnt y y16 q.1 x (by omega)) (cnt y y16 q.1 b (by omega))).mpr t
                exact hxa (by rw [← u1, t2])
              · exact (nxt_prv h2 h1 (cnt y y16 q.1 b (by omega)) (cnt y y16 q.1 a (by omega))).mp t2
            · rw [if_neg t, if_neg t]
          · rw [stand_map h1 h2 (cnt y y16 q.1 b (by omega))]
            have s := (sg_nxt (b := b) h1 h3').2
            rw [sg_n hxb] at s
            exact s
        · rw [if_neg h2, sg_n (fun w => h2 (by rw [← w]; exact prv_mem h3'))]
      rw [N, P, hf x hx hal y h3 h16]
end
section
/-! THE FOAM as it is laid -/
noncomputable def pushR (l : List Nat) (x : Nat) : List Nat := if x = 16 ∧ l.getLast? = some 16 then l else l ++ [x]
theorem push_s {m : Mem} {b x : Nat} {l : List Nat} (hb : b < 16) (hx : x ≤ 16) (h : rgAt m b l) (hl : l.length < 44) : ∃ m', bX9_grows_32 (o32 b) (o32 x) (o32 l.length) m = some m' ∧ rgAt m' b (l ++ [x]) ∧ offR m m' b := by
  have t5 : ∀ v m, fX9_tells (o32 b) 5 v m = some (mput m 138 (12 + 50 * b + 5) v) := fun v m => tl_o (f := 5) hb (by omega)
  refine ⟨_, by unfold bX9_grows_32; rw [tr_o hb hl, Option.bind_some, t5, Option.bind_some], ⟨by simp; omega, ?_, ?_, fun i hi => ?_⟩, fun c j hn => ?_⟩
  · rw [mput_get, if_pos ⟨rfl, rfl⟩, o_s]
    simp
  · intro y hy
    rcases List.mem_append.mp hy with w | w
    · exact h.2.2.1 y w
    · rw [List.mem_singleton.mp w]; exact hx
  · rw [mput_get, if_neg (by omega), mput_get]
    rw [List.length_append] at hi
    have h1 : [x].length = 1 := rfl
    by_cases e : i = l.length
    · subst e
      rw [if_pos ⟨rfl, rfl⟩, List.getElem_append_right (by omega)]
      simp
    · rw [if_neg (by omega), List.getElem_append_left (by omega)]
      exact h.2.2.2 i (by omega)
  · rw [mput_get, if_neg (fun z => hn ⟨z.1, by omega, by omega⟩), mput_get, if_neg (fun z => hn ⟨z.1, by omega, by omega⟩)]
theorem six_1 {k : Nat} (hk : k < 1000) : (6 : Int32) + o32 (k + 1) - 1 = 6 + o32 k := by
  show o32 6 + o32 (k + 1) - o32 1 = o32 6 + o32 k
  rw [o_add, o_sub (by omega) (by omega), o_add]
  congr 1
theorem last_s {m : Mem} {b z : Nat} {A : List Nat} (hb : b < 16) (h : rgAt m b (A ++ [z])) : fX9_of (o32 b) ((6 + o32 (A ++ [z]).length) - 1) m = some (o32 z) := by
  have hl := h.1
  rw [List.length_append] at hl
  have h1 : [z].length = 1 := rfl
  rw [List.length_append, h1, six_1 (by omega), rg_o hb (by omega), h.2.2.2 A.length (by simp), List.getElem_append_right (by omega)]
  simp
theorem grows_s {m : Mem} {b x : Nat} {l : List Nat} (hb : b < 16) (hx : x ≤ 16) (h : rgAt m b l) (hl : l.length < 44) : ∃ m', fX9_grows (o32 b) (o32 x) m = some m' ∧ rgAt m' b (pushR l x) ∧ offR m m' b := by
  obtain ⟨m', e, r, o⟩ := push_s hb hx h hl
  have x16 : o32 x = 16 ↔ x = 16 := o_eq (b := 16) (by omega) (by omega)
  unfold fX9_grows
  rw [sd_o hb, h.2.1, Option.bind_some]
  unfold pushR
  rcases ends l with rfl | ⟨A, z, rfl⟩
  · rw [if_pos (show o32 ([] : List Nat).length = 0 from rfl), if_neg (by simp)]
    exact ⟨m', e, r, o⟩
  · have hz : z ≤ 16 := h.2.2.1 z (by simp)
    have n0 : ¬ o32 (A ++ [z]).length = 0 := fun w => by
      have := (o_eq (b := 0) (by omega) (by omega)).mp w
      simp at this
    rw [if_neg n0]
    have gl : (A ++ [z]).getLast? = some z := by simp
    rw [gl]
    by_cases h16 : x = 16
    · rw [if_pos (x16.mpr h16), last_s hb h, Option.bind_some]
      have z16 : o32 z = 16 ↔ z = 16 := o_eq (b := 16) (by omega) (by omega)
      by_cases hz16 : z = 16
      · rw [if_pos (z16.mpr hz16), if_pos ⟨h16, by rw [hz16]⟩]
        exact ⟨m, rfl, h, fun c j _ => rfl⟩
      · rw [if_neg (fun w => hz16 (z16.mp w)), if_neg (fun w => hz16 (Option.some.inj w.2))]
        exact ⟨m', e, r, o⟩
    · rw [if_neg (fun w => h16 (x16.mp w)), if_neg (fun w => h16 w.1)]
      exact ⟨m', e, r, o⟩
noncomputable def plI (w h : Nat) (r c : Int) : Nat := if 0 ≤ r ∧ r < h ∧ 0 ≤ c ∧ c < w then r.toNat * w + c.toNat else 16
noncomputable def plQ (w h j i y : Nat) : Bool := decide (fX9_placed (o32 w) (o32 h) (o32 j) (o32 i + 1) = o32 (plI w h j (i + 1))) && (decide (fX9_placed (o32 w) (o32 h) (o32 j + 1) (o32 y) = o32 (plI w h (j + 1) y)) && (decide (fX9_placed (o32 w) (o32 h) (o32 j + 1) (o32 y - 1) = o32 (plI w h (j + 1) (y - 1))) && (decide (fX9_placed (o32 w) (o32 h) (o32 j) (o32 i - 1) = o32 (plI w h j (i - 1))) && (decide (fX9_placed (o32 w) (o32 h) (o32 j - 1) (o32 y - 1) = o32 (plI w h (j - 1) (y - 1))) && decide (fX9_placed (o32 w) (o32 h) (o32 j - 1) (o32 y) = o32 (plI w h (j - 1) y))))))
noncomputable def plL (w h j i y : Nat) : List Nat := [plI w h j (i + 1), plI w h (j + 1) y, plI w h (j + 1) (y - 1), plI w h j (i - 1), plI w h (j - 1) (y - 1), plI w h (j - 1) y]
noncomputable def pl5 (f : Nat → Nat → Nat → Nat → Nat → Bool) : Bool := (List.range 5).all fun w => (List.range 5).all fun h => (List.range 4).all fun j => (List.range 4).all fun i => (List.range 5).all fun y => f w h j i y
theorem pl5_of {f : Nat → Nat → Nat → Nat → Nat → Bool} (e : pl5 f = true) {w h j i y : Nat} (hw : w < 5) (hh : h < 5) (hj : j < 4) (hi : i < 4) (hy : y < 5) : f w h j i y = true := by
  have m : ∀ {n k : Nat} {p : Nat → Bool}, (List.range n).all p = true → k < n → p k = true := fun e h => List.all_eq_true.mp e _ (List.mem_range.mpr h)
  exact m (m (m (m (m e hw) hh) hj) hi) hy
theorem pl_ok : pl5 plQ = true := by decide +kernel
theorem pl_le : pl5 (fun w h j i y => (plL w h j i y).all (fun x => decide (x ≤ 16))) = true := by decide +kernel
theorem pl_all {w h j i y : Nat} (hw : w < 5) (hh : h < 5) (hj : j < 4) (hi : i < 4) (hy : y < 5) : fX9_placed (o32 w) (o32 h) (o32 j) (o32 i + 1) = o32 (plI w h j (i + 1)) ∧ fX9_placed (o32 w) (o32 h) (o32 j + 1) (o32 y) = o32 (plI w h (j + 1) y) ∧ fX9_placed (o32 w) (o32 h) (o32 j + 1) (o32 y - 1) = o32 (plI w h (j + 1) (y - 1)) ∧ fX9_placed (o32 w) (o32 h) (o32 j) (o32 i - 1) = o32 (plI w h j (i - 1)) ∧ fX9_placed (o32 w) (o32 h) (o32 j - 1) (o32 y - 1) = o32 (plI w h (j - 1) (y - 1)) ∧ fX9_placed (o32 w) (o32 h) (o32 j - 1) (o32 y) = o32 (plI w h (j - 1) y) := by
  have e := pl5_of pl_ok hw hh hj hi hy
  unfold plQ at e
  simp only [Bool.and_eq_true, decide_eq_true_eq] at e
  exact e
theorem pl_l {w h j i y : Nat} (hw : w < 5) (hh : h < 5) (hj : j < 4) (hi : i < 4) (hy : y < 5) : ∀ x ∈ plL w h j i y, x ≤ 16 := fun x hx => by
  have e := List.all_eq_true.mp (pl5_of pl_le hw hh hj hi hy) x hx
  exact of_decide_eq_true e
noncomputable def trimR (l : List Nat) : List Nat := if 1 < l.length ∧ l.head? = some 16 ∧ l.getLast? = some 16 then l.dropLast else l
noncomputable def ring6 (w h j i y : Nat) : List Nat := pushR (pushR (pushR (pushR (pushR (pushR [] (plI w h j (i + 1))) (plI w h (j + 1) y)) (plI w h (j + 1) (y - 1))) (plI w h j (i - 1))) (plI w h (j - 1) (y - 1))) (plI w h (j - 1) y)
theorem pushR_len (l : List Nat) (x : Nat) : (pushR l x).length ≤ l.length + 1 := by
  unfold pushR
  split
  · omega
  · simp
theorem trim_s {m : Mem} {b : Nat} {l : List Nat} {i : Int32} (hb : b < 16) (h : rgAt m b l) : ∃ m', ((fX9_sidesOf (o32 b) m).bind fun q20 => (if q20 ≤ 1 then (some (.inl (i, m)) : Option ((Int32 × Mem) ⊕ ((Int32 × Mem) ⊕ (Int32 × Mem)))) else (fX9_of (o32 b) 6 m).bind fun q21 => (if q21 = 16 then (fX9_of (o32 b) ((6 + q20) - 1) m).bind fun q22 => (if q22 = 16 then (fX9_tells (o32 b) 5 (q20 - 1) m).bind fun q23 => some (.inl (i, q23)) else some (.inl (i, m))) else some (.inl (i, m))))) = some (.inl (i, m')) ∧ rgAt m' b (trimR l) ∧ offR m m' b := by
  have hl := h.1
  have t5 : ∀ v m, fX9_tells (o32 b) 5 v m = some (mput m 138 (12 + 50 * b + 5) v) := fun v m => tl_o (f := 5) hb (by omega)
  rw [sd_o hb, h.2.1, Option.bind_some]
  unfold trimR
  have le1 : o32 l.length ≤ 1 ↔ l.length ≤ 1 := o_le (b := 1) (by omega) (by omega)
  have eq16 : ∀ z, z ≤ 16 → (o32 z = 16 ↔ z = 16) := fun z hz => o_eq (b := 16) (by omega) (by omega)
  by_cases h1 : l.length ≤ 1
  · rw [if_pos (le1.mpr h1), if_neg (by omega)]
    exact ⟨m, rfl, h, fun c j _ => rfl⟩
  · rw [if_neg (fun w => h1 (le1.mp w))]
    have e0 : fX9_of (o32 b) 6 m = some (o32 (l[0]'(by omega))) := by
      have := rg_o (b := b) (i := 0) (m := m) hb (by omega)
      rw [h.2.2.2 0 (by omega)] at this
      exact this
    rw [e0, Option.bind_some]
    have f0 : l.head? = some (l[0]'(by omega)) := by rw [List.head?_eq_getElem?]; exact List.getElem?_eq_getElem _
    have b0 : l[0]'(by omega) ≤ 16 := h.2.2.1 _ (List.getElem_mem _)
    rw [f0]
    by_cases g0 : l[0]'(by omega) = 16
    · rw [if_pos ((eq16 _ b0).mpr g0)]
      rcases ends l with rfl | ⟨A, z, rfl⟩
      · simp at h1
      · have hz : z ≤ 16 := h.2.2.1 z (by simp)
        rw [last_s hb h, Option.bind_some]
        have gl : (A ++ [z]).getLast? = some z := by simp
        rw [gl]
        by_cases g1 : z = 16
        · rw [if_pos ((eq16 _ hz).mpr g1), if_pos ⟨by omega, by rw [g0], by rw [g1]⟩, t5, Option.bind_some]
          refine ⟨_, rfl, ?_, fun c j hn => by rw [mput_get, if_neg (fun w => hn ⟨w.1, by omega, by omega⟩)]⟩
          rw [List.dropLast_concat]
          have hl' := hl
          rw [List.length_append] at hl'
          have hz1 : [z].length = 1 := rfl
          refine ⟨by omega, ?_, fun y hy => h.2.2.1 y (by simp [hy]), fun k hk => ?_⟩
          · rw [mput_get, if_pos ⟨rfl, rfl⟩, List.length_append, hz1]
            exact (o_sub (b := 1) (by omega) (by omega))
          · rw [mput_get, if_neg (by omega), h.2.2.2 k (by simp; omega), List.getElem_append_left hk]
        · rw [if_neg (fun w => g1 ((eq16 _ hz).mp w)), if_neg (fun w => g1 (Option.some.inj w.2.2))]
          exact ⟨m, rfl, h, fun c j _ => rfl⟩
    · rw [if_neg (fun w => g0 ((eq16 _ b0).mp w)), if_neg (fun w => g0 (Option.some.inj w.2.1))]
      exact ⟨m, rfl, h, fun c j _ => rfl⟩
end
section
/-- one BUBBLE of a new FOAM -/
noncomputable def row2 (j : Nat) : Nat := j % 2
theorem cell_s {m : Mem} {w h j i y n : Nat} {g : Int32} (hw : w < 5) (hh : h < 5) (hj : j < 4) (hi : i < 4) (hy : y < 5) (hn : n < 16) (hz : ∀ f, f < 50 → m 138 (12 + 50 * n + f) = 0) :
    ∃ m', bX9_foam_137 (o32 w) (o32 h) g (o32 j) (o32 i) (o32 n) (o32 y) m = some (.inl (o32 (i + 1), m')) ∧ rgAt m' n (trimR (ring6 w h j i y)) ∧ m' 138 (12 + 50 * n) = 1 ∧ m' 138 (12 + 50 * n + 1) = 0 ∧ m' 138 (12 + 50 * n + 2) = g ∧ m' 138 (12 + 50 * n + 3) = 0 ∧ m' 138 (12 + 50 * n + 4) = o32 j ∧ (∀ c z, ¬ (c = 138 ∧ 12 + 50 * n ≤ z ∧ z < 12 + 50 * n + 50) → m' c z = m c z) := by
  obtain ⟨p1, p2, p3, p4, p5, p6⟩ := pl_all hw hh hj hi hy
  have L := pl_l hw hh hj hi hy
  have t0 : ∀ v m, fX9_tells (o32 n) 0 v m = some (mput m 138 (12 + 50 * n + 0) v) := fun v m => tl_o (f := 0) hn (by omega)
  have t2 : ∀ v m, fX9_tells (o32 n) 2 v m = some (mput m 138 (12 + 50 * n + 2) v) := fun v m => tl_o (f := 2) hn (by omega)
  have t4 : ∀ v m, fX9_tells (o32 n) 4 v m = some (mput m 138 (12 + 50 * n + 4) v) := fun v m => tl_o (f := 4) hn (by omega)
  let m0 := mput (mput (mput m 138 (12 + 50 * n + 0) 1) 138 (12 + 50 * n + 2) g) 138 (12 + 50 * n + 4) (o32 j)
  have g0 : ∀ c z, m0 c z = if c = 138 ∧ z = 12 + 50 * n + 4 then o32 j else if c = 138 ∧ z = 12 + 50 * n + 2 then g else if c = 138 ∧ z = 12 + 50 * n + 0 then 1 else m c z := fun c z => by
    show mput (mput (mput m 138 (12 + 50 * n + 0) 1) 138 (12 + 50 * n + 2) g) 138 (12 + 50 * n + 4) (o32 j) c z = _
    rw [mput_get, mput_get, mput_get]
  have r0 : rgAt m0 n [] := ⟨by simp, by rw [g0, if_neg (by omega), if_neg (by omega), if_neg (by omega), hz 5 (by omega)]; rfl, by simp, by simp⟩
  obtain ⟨m1, e1, r1, o1⟩ := grows_s hn (L _ (by unfold plL; simp)) r0 (x := plI w h j (i + 1)) (by simp)
  have l1 := pushR_len [] (plI w h j (i + 1))
  obtain ⟨m2, e2, r2, o2⟩ := grows_s hn (L _ (by unfold plL; simp)) r1 (x := plI w h (j + 1) y) (by simp at l1; omega)
  have l2 := pushR_len (pushR [] (plI w h j (i + 1))) (plI w h (j + 1) y)
  obtain ⟨m3, e3, r3, o3⟩ := grows_s hn (L _ (by unfold plL; simp)) r2 (x := plI w h (j + 1) (y - 1)) (by simp at l1; omega)
  have l3 := pushR_len (pushR (pushR [] (plI w h j (i + 1))) (plI w h (j + 1) y)) (plI w h (j + 1) (y - 1))
  obtain ⟨m4, e4, r4, o4⟩ := grows_s hn (L _ (by unfold plL; simp)) r3 (x := plI w h j (i - 1)) (by simp at l1; omega)
  have l4 := pushR_len (pushR (pushR (pushR [] (plI w h j (i + 1))) (plI w h (j + 1) y)) (plI w h (j + 1) (y - 1))) (plI w h j (i - 1))
  obtain ⟨m5, e5, r5, o5⟩ := grows_s hn (L _ (by unfold plL; simp)) r4 (x := plI w h (j - 1) (y - 1)) (by simp at l1; omega)
  have l5 := pushR_len (pushR (pushR (pushR (pushR [] (plI w h j (i + 1))) (plI w h (j + 1) y)) (plI w h (j + 1) (y - 1))) (plI w h j (i - 1))) (plI w h (j - 1) (y - 1))
  obtain ⟨m6, e6, r6, o6⟩ := grows_s hn (L _ (by unfold plL; simp)) r5 (x := plI w h (j - 1) y) (by simp at l1; omega)
  obtain ⟨m7, e7, r7, o7⟩ := trim_s (i := o32 i + 1) hn r6
  have O : ∀ c z, ¬ (c = 138 ∧ 12 + 50 * n + 5 ≤ z ∧ z < 12 + 50 * n + 50) → m7 c z = m0 c z := fun c z q => by
    rw [o7 c z q, o6 c z q, o5 c z q, o4 c z q, o3 c z q, o2 c z q, o1 c z q]
  refine ⟨m7, ?_, r7, ?_, ?_, ?_, ?_, ?_, fun c z q => ?_⟩
  · unfold bX9_foam_137
    rw [t0, Option.bind_some, t2, Option.bind_some, t4, Option.bind_some, p1]
    rw [show mput (mput (mput m 138 (12 + 50 * n + 0) 1) 138 (12 + 50 * n + 2) g) 138 (12 + 50 * n + 4) (o32 j) = m0 from rfl, e1, Option.bind_some, p2, e2, Option.bind_some, p3, e3, Option.bind_some, p4, e4, Option.bind_some, p5, e5, Option.bind_some, p6, e6, Option.bind_some, e7, o_s]
  · rw [O _ _ (by omega), g0, if_neg (by omega), if_neg (by omega), if_pos ⟨rfl, rfl⟩]
  · rw [O _ _ (by omega), g0, if_neg (by omega), if_neg (by omega), if_neg (by omega), hz 1 (by omega)]
  · rw [O _ _ (by omega), g0, if_neg (by omega), if_pos ⟨rfl, rfl⟩]
  · rw [O _ _ (by omega), g0, if_neg (by omega), if_neg (by omega), if_neg (by omega), hz 3 (by omega)]
  · rw [O _ _ (by omega), g0, if_pos ⟨rfl, rfl⟩]
  · rw [O _ _ (by omega), g0, if_neg (by omega), if_neg (by omega), if_neg (by omega)]
/-- the rings and the BUBBLES of a new FOAM -/
noncomputable def R0 (w h b : Nat) : List Nat := trimR (ring6 w h (b / w) (b % w) (b % w + b / w % 2))
noncomputable def A0 (w h b : Nat) : Bool := decide (b < w * h)
noncomputable def ch4 (f : Nat → Nat → Bool) : Bool := (List.range 4).all fun w => (List.range 4).all fun h => f (w + 1) (h + 1)
theorem ch4_of {f : Nat → Nat → Bool} (e : ch4 f = true) {w h : Nat} (hw : 1 ≤ w) (hw4 : w ≤ 4) (hh : 1 ≤ h) (hh4 : h ≤ 4) : f w h = true := by
  have m : ∀ {n k : Nat} {p : Nat → Bool}, (List.range n).all p = true → k < n → p k = true := fun e h => List.all_eq_true.mp e _ (List.mem_range.mpr h)
  have := m (m e (k := w - 1) (by omega)) (k := h - 1) (by omega)
  rw [show w - 1 + 1 = w by omega, show h - 1 + 1 = h by omega] at this
  exact this
noncomputable def GrB (r : Nat → List Nat) (al : Nat → Bool) : Bool := (List.range 16).all fun b => !al b || ((r b).all fun x => decide (x ≤ 16) && (decide (x = 16) || (al x && (decide (x ≠ b) && decide (b ∈ r x)))) && (decide (x = 16) || (decide ((r b).count x ≤ 1) && decide (nxt (r b) x = prv (r x) b))))
theorem GrB_of {r : Nat → List Nat} {al : Nat → Bool} (h : GrB r al = true) (u : Ur r al ≤ 42) : Gr r al ∧ FC r al := by
  have k : ∀ b, b < 16 → al b = true → ∀ x, x ∈ r b → (x ≤ 16 ∧ (x = 16 ∨ (al x = true ∧ x ≠ b ∧ b ∈ r x))) ∧ (x = 16 ∨ ((r b).count x ≤ 1 ∧ nxt (r b) x = prv (r x) b)) := fun b hb hal x hx => by
    have e := List.all_eq_true.mp h b (List.mem_range.mpr hb)
    rw [hal] at e
    simp only [Bool.not_true, Bool.false_or] at e
    have e2 := List.all_eq_true.mp e x hx
    simp only [Bool.and_eq_true, Bool.or_eq_true, decide_eq_true_eq] at e2
    exact e2
  refine ⟨⟨fun b hb hal x hx => ⟨(k b hb hal x hx).1.1, fun h16 => ((k b hb hal x hx).1.2).resolve_left h16⟩, fun b hb hal x h16 => ?_, u⟩, fun b hb hal x hx h16 => (((k b hb hal x hx).2).resolve_left h16).2⟩
  by_cases hx : x ∈ r b
  · exact (((k b hb hal x hx).2).resolve_left h16).1
  · rw [List.count_eq_zero_of_not_mem hx]; omega
theorem foam_ok : ch4 (fun w h => GrB (R0 w h) (A0 w h) && (decide (Ur (R0 w h) (A0 w h) ≤ 42) && (List.range 16).all fun b => !A0 w h b || decide (1 ≤ (R0 w h b).length))) = true := by decide +kernel
theorem foam_Gr {w h : Nat} (hw : 1 ≤ w) (hw4 : w ≤ 4) (hh : 1 ≤ h) (hh4 : h ≤ 4) : Gr (R0 w h) (A0 w h) ∧ FC (R0 w h) (A0 w h) ∧ ∀ b, b < 16 → A0 w h b = true → 1 ≤ (R0 w h b).length := by
  have e := ch4_of foam_ok hw hw4 hh hh4
  simp only [Bool.and_eq_true, decide_eq_true_eq] at e
  obtain ⟨e1, e2, e3⟩ := e
  obtain ⟨g, f⟩ := GrB_of e1 e2
  refine ⟨g, f, fun b hb hal => ?_⟩
  have q := List.all_eq_true.mp e3 b (List.mem_range.mpr hb)
  rw [hal] at q
  simpa using q
end
section
/-! foam, in whole -/
theorem par4 : ∀ j, j < 4 → (o32 j - o32 j / 2 * 2 = 1 ↔ j % 2 = 1) := by decide +kernel
noncomputable def CI (w h : Nat) (g : Int32) (m1 m : Mem) (n : Nat) : Prop := (∀ b, b < 16 → b < n → rgAt m b (R0 w h b) ∧ m 138 (12 + 50 * b) = 1 ∧ m 138 (12 + 50 * b + 1) = 0 ∧ m 138 (12 + 50 * b + 2) = g ∧ m 138 (12 + 50 * b + 3) = 0 ∧ m 138 (12 + 50 * b + 4) = o32 (b / w)) ∧ (∀ b, b < 16 → n ≤ b → ∀ f, f < 50 → m 138 (12 + 50 * b + f) = 0) ∧ (∀ c j, ¬ (c = 138 ∧ 12 ≤ j ∧ j < 812) → m c j = m1 c j)
theorem rgAt_same {m m' : Mem} {b : Nat} {l : List Nat} (h : rgAt m b l) (e : ∀ z, 12 + 50 * b ≤ z → z < 12 + 50 * b + 50 → m' 138 z = m 138 z) : rgAt m' b l := ⟨h.1, by rw [e _ (by omega) (by omega)]; exact h.2.1, h.2.2.1, fun i hi => by have := h.1; rw [e _ (by omega) (by omega)]; exact h.2.2.2 i hi⟩
theorem ci_step {w h j i : Nat} {g : Int32} {m1 m : Mem} (hw : 1 ≤ w) (hw4 : w ≤ 4) (hh4 : h ≤ 4) (hj : j < h) (hi : i < w) (hc : CI w h g m1 m (j * w + i)) : ∃ m', lX9_foam_105 (o32 w) (o32 h) g (o32 j) (o32 i, m) = some (.inl (o32 (i + 1), m')) ∧ CI w h g m1 m' (j * w + (i + 1)) := by
  obtain ⟨c1, c2, c3⟩ := hc
  have hjw : j * w ≤ 3 * w := Nat.mul_le_mul_right w (by omega)
  have hn : j * w + i < 16 := by omega
  obtain ⟨m', e, r, f0, f1, f2, f3, f4, fr⟩ := cell_s (m := m) (w := w) (h := h) (j := j) (i := i) (y := i + j % 2) (n := j * w + i) (g := g) (by omega) (by omega) (by omega) (by omega) (by omega) hn (c2 _ hn (Nat.le_refl _))
  have dv : (j * w + i) / w = j := by rw [Nat.add_comm, Nat.add_mul_div_right _ _ (by omega), Nat.div_eq_of_lt hi, Nat.zero_add]
  have md : (j * w + i) % w = i := by rw [Nat.add_comm, Nat.add_mul_mod_self_right, Nat.mod_eq_of_lt hi]
  refine ⟨m', ?_, fun b hb hbn => ?_, fun b hb hbn f hf => ?_, fun c z q => ?_⟩
  · unfold lX9_foam_105
    dsimp only
    have nl : ¬ o32 w ≤ o32 i := fun z => by
      have := (o_le (by omega) (by omega)).mp z
      omega
    rw [if_neg nl, o_mul, o_add, o_s]
    by_cases p : j % 2 = 1
    · rw [if_pos ((par4 j (by omega)).mpr p)]
      rw [p] at e
      exact e
    · rw [if_neg (fun z => p ((par4 j (by omega)).mp z))]
      rw [show j % 2 = 0 by omega] at e
      exact e
  · by_cases eb : b = j * w + i
    · subst eb
      refine ⟨?_, f0, f1, f2, f3, by rw [f4, dv]⟩
      unfold R0
      rw [dv, md]
      exact r
    · have q := c1 b hb (by omega)
      have s : ∀ z, 12 + 50 * b ≤ z → z < 12 + 50 * b + 50 → m' 138 z = m 138 z := fun z h1 h2 => fr _ _ (by omega)
      refine ⟨rgAt_same q.1 s, ?_⟩
      rw [s _ (by omega) (by omega), s _ (by omega) (by omega), s _ (by omega) (by omega), s _ (by omega) (by omega), s _ (by omega) (by omega)]
      exact q.2
  · rw [fr _ _ (by omega)]
    exact c2 b hb (by omega) f hf
  · rw [fr c z (fun q2 => q ⟨q2.1, by omega, by omega⟩)]
    exact c3 c z q
theorem row_s {w h j : Nat} {g : Int32} {m1 m : Mem} (hw : 1 ≤ w) (hw4 : w ≤ 4) (hh4 : h ≤ 4) (hj : j < h) (hc : CI w h g m1 m (j * w)) : ∃ m', lX9_foam_96 (o32 w) (o32 h) g (o32 j, m) = some (.inl (o32 (j + 1), m')) ∧ CI w h g m1 m' ((j + 1) * w) := by
  have key := lp_ix (body := lX9_foam_105 (o32 w) (o32 h) g (o32 j)) (fun i s => s.1 = o32 i ∧ CI w h g m1 s.2 (j * w + i)) (fun e => ∃ m', e = .inl (o32 (j + 1), m') ∧ CI w h g m1 m' ((j + 1) * w)) w 0 ((0 : Int32), m) fu ⟨rfl, hc⟩ (fun i s _ h2 hi => ?_) (fun s hi => ?_) (lt_fu (by omega))
  · obtain ⟨e, e1, m', e2, e3⟩ := key
    refine ⟨m', ?_, e3⟩
    unfold lX9_foam_96
    dsimp only
    have nl : ¬ o32 h ≤ o32 j := fun z => by
      have := (o_le (by omega) (by omega)).mp z
      omega
    rw [if_neg nl, e1, e2]
  · obtain ⟨s1, s2⟩ := s
    obtain ⟨h1, h3⟩ := hi
    dsimp only at h1 h3
    subst h1
    obtain ⟨m', q1, q2⟩ := ci_step hw hw4 hh4 hj (by omega) h3
    exact ⟨_, q1, rfl, q2⟩
  · obtain ⟨s1, s2⟩ := s
    obtain ⟨h1, h3⟩ := hi
    dsimp only at h1 h3
    subst h1
    refine ⟨_, ?_, s2, rfl, ?_⟩
    · unfold lX9_foam_105
      dsimp only
      rw [if_pos ((o_le (by omega) (by omega)).mpr (by omega)), o_s]
    · rw [show (j + 1) * w = j * w + (0 + w) by rw [Nat.succ_mul]; omega]
      exact h3
/-- what foam makes -/
noncomputable def FoamOut (w h : Nat) (g : Int32) (m m' : Mem) : Prop := RS m' (R0 w h) (A0 w h) ∧ (∀ b, b < 16 → b < w * h → m' 138 (12 + 50 * b + 1) = 0 ∧ m' 138 (12 + 50 * b + 2) = g ∧ m' 138 (12 + 50 * b + 3) = 0 ∧ m' 138 (12 + 50 * b + 4) = o32 (b / w)) ∧ m' 138 0 = 0 ∧ (∀ j, 7 ≤ j → j ≤ 10 → m' 138 j = 0) ∧ (∀ c j, ¬ (c = 138 ∧ (j = 0 ∨ (7 ≤ j ∧ j ≤ 10) ∨ (12 ≤ j ∧ j < 812))) → m' c j = m c j)
theorem foam_s {m : Mem} {w h : Nat} {g : Int32} (hw : 1 ≤ w) (hw4 : w ≤ 4) (hh : 1 ≤ h) (hh4 : h ≤ 4) (hg : fX9_within g 0 99999 ≠ 0) : ∃ m', fX9_foam (o32 w) (o32 h) g m = some (o32 (w * h), m') ∧ FoamOut w h g m m' := by
  have n4 : ∀ x, 1 ≤ x → x ≤ 4 → fX9_within (o32 x) 1 4 ≠ 0 := fun x h1 h2 => by
    have : fX9_within (o32 x) (o32 1) (o32 4) = 1 := by rw [within_o (by omega) (by omega) (by omega), if_pos ⟨h1, h2⟩]
    show fX9_within (o32 x) (o32 1) (o32 4) ≠ 0
    rw [this]
    decide
  have hwh : w * h ≤ 16 := Nat.mul_le_mul hw4 hh4
  have rows : ∀ m1 : Mem, (∀ b, b < 16 → ∀ f, f < 50 → m1 138 (12 + 50 * b + f) = 0) → ∃ m', lp (lX9_foam_96 (o32 w) (o32 h) g) fu ((0 : Int32), m1) = some (o32 (w * h), m') ∧ CI w h g m1 m' (h * w) := fun m1 hz => by
    have key := lp_ix (body := lX9_foam_96 (o32 w) (o32 h) g) (fun j s => s.1 = o32 j ∧ CI w h g m1 s.2 (j * w)) (fun e => ∃ m', e = (o32 (w * h), m') ∧ CI w h g m1 m' (h * w)) h 0 ((0 : Int32), m1) fu ⟨rfl, fun b hb hbn => absurd hbn (by omega), fun b hb _ => hz b hb, fun c j _ => rfl⟩ (fun j s _ h2 hi => ?_) (fun s hi => ?_) (lt_fu (by omega))
    · obtain ⟨e, e1, m', e2, e3⟩ := key
      exact ⟨m', by rw [e1, e2], e3⟩
    · obtain ⟨s1, s2⟩ := s
      obtain ⟨h1, h3⟩ := hi
      dsimp only at h1 h3
      subst h1
      obtain ⟨m', q1, q2⟩ := row_s hw hw4 hh4 (by omega) h3
      exact ⟨_, q1, rfl, q2⟩
    · obtain ⟨s1, s2⟩ := s
      obtain ⟨h1, h3⟩ := hi
      dsimp only at h1 h3
      subst h1
      rw [Nat.zero_add] at h3 ⊢
      refine ⟨_, ?_, s2, rfl, h3⟩
      unfold lX9_foam_96
      dsimp only
      rw [if_pos ((o_le (by omega) (by omega)).mpr (by omega)), o_mul]
  unfold fX9_foam
  rw [if_neg (n4 w hw hw4), if_neg (n4 h hh hh4), if_neg hg]
  have key := lp_ix (body := lX9_foam_39 (o32 w) (o32 h) g) (fun k s => s.1 = o32 (12 + k) ∧ ∀ c j, s.2 c j = if c = 138 ∧ 12 ≤ j ∧ j < 12 + k then 0 else m c j) (fun e => ∃ m', e = (o32 (w * h), m') ∧ FoamOut w h g m m') 800 0 ((12 : Int32), m) fu ⟨rfl, fun c j => by show m c j = _; rw [if_neg (by omega)]⟩ (fun k s _ h2 hi => ?_) (fun s hi => ?_) (lt_fu (by omega))
  · obtain ⟨e, e1, m', e2, e3⟩ := key
    exact ⟨m', by rw [e1, e2], e3⟩
  · obtain ⟨s1, s2⟩ := s
    obtain ⟨h1, h3⟩ := hi
    dsimp only at h1 h3
    subst h1
    refine ⟨(o32 (12 + k) + 1, mput s2 138 (12 + k) 0), ?_, by show o32 (12 + k) + 1 = _; rw [o_s]; rfl, fun c j => ?_⟩
    · unfold lX9_foam_39
      dsimp only
      have nl : ¬ (812 : Int32) ≤ o32 (12 + k) := fun z => by
        have := (o_le (a := 812) (by omega) (by omega)).mp z
        omega
      rw [if_neg nl, if_pos (o_inb (by omega) (by omega)), o_tn (by omega)]
    · dsimp only
      rw [mput_get, h3]
      by_cases q : c = 138 ∧ j = 12 + k
      · rw [if_pos q, if_pos ⟨q.1, by omega, by omega⟩]
      · rw [if_neg q]
        by_cases q2 : c = 138 ∧ 12 ≤ j ∧ j < 12 + k
        · rw [if_pos q2, if_pos ⟨q2.1, q2.2.1, by omega⟩]
        · rw [if_neg q2, if_neg (by omega)]
  · obtain ⟨s1, s2⟩ := s
    obtain ⟨h1, h3⟩ := hi
    dsimp only at h1 h3
    subst h1
    have k72 := lp_ix (body := lX9_foam_72 (o32 w) (o32 h) g) (fun k s => s.1 = o32 (7 + k) ∧ ∀ c j, s.2 c j = if c = 138 ∧ (j = 0 ∨ (7 ≤ j ∧ j < 7 + k) ∨ (12 ≤ j ∧ j < 812)) then 0 else m c j) (fun e => ∃ m', e = (o32 (w * h), m') ∧ FoamOut w h g m m') 4 0 ((7 : Int32), mput s2 138 0 0) fu ⟨rfl, fun c j => by
        show mput s2 138 0 0 c j = _
        rw [mput_get, h3]
        by_cases q : c = 138 ∧ j = 0
        · rw [if_pos q, if_pos ⟨q.1, .inl q.2⟩]
        · rw [if_neg q]
          by_cases q2 : c = 138 ∧ 12 ≤ j ∧ j < 812
          · rw [if_pos (by omega), if_pos ⟨q2.1, by omega⟩]
          · rw [if_neg (by omega), if_neg (by omega)]⟩ (fun k s _ h2 hi => ?_) (fun s hi => ?_) (lt_fu (by omega))
    · obtain ⟨e, e1, e2⟩ := k72
      refine ⟨e, ?_, e2⟩
      unfold lX9_foam_39
      dsimp only
      rw [if_pos (show (812 : Int32) ≤ o32 (12 + (0 + 800)) by decide), e1]
      rfl
    · obtain ⟨s1, s3⟩ := s
      obtain ⟨h1, h4⟩ := hi
      dsimp only at h1 h4
      subst h1
      refine ⟨(o32 (7 + k) + 1, mput s3 138 (7 + k) 0), ?_, by show o32 (7 + k) + 1 = _; rw [o_s]; rfl, fun c j => ?_⟩
      · unfold lX9_foam_72
        dsimp only
        have nl : ¬ (10 : Int32) < o32 (7 + k) := fun z => by
          have := (o_lt (a := 10) (by omega) (by omega)).mp z
          omega
        rw [if_neg nl, if_pos (o_inb (by omega) (by omega)), o_tn (by omega)]
      · dsimp only
        rw [mput_get, h4]
        by_cases q : c = 138 ∧ j = 7 + k
        · rw [if_pos q, if_pos ⟨q.1, by omega⟩]
        · rw [if_neg q]
          by_cases q2 : c = 138 ∧ (j = 0 ∨ (7 ≤ j ∧ j < 7 + k) ∨ (12 ≤ j ∧ j < 812))
          · rw [if_pos q2, if_pos ⟨q2.1, by omega⟩]
          · rw [if_neg q2, if_neg (by omega)]
    · obtain ⟨s1, s3⟩ := s
      obtain ⟨h1, h4⟩ := hi
      dsimp only at h1 h4
      subst h1
      obtain ⟨m', r1, c1, c2, c3⟩ := rows s3 (fun b hb f hf => by rw [h4, if_pos ⟨rfl, by omega⟩])
      refine ⟨_, by
        unfold lX9_foam_72
        dsimp only
        rw [if_pos (show (10 : Int32) < o32 (7 + (0 + 4)) by decide), r1]
        rfl, m', rfl, fun b hb => ?_, fun b hb hbn => (c1 b hb (by rw [Nat.mul_comm]; exact hbn)).2.2, ?_, fun j j1 j2 => ?_, fun c j q => ?_⟩
      · unfold A0
        by_cases hbn : b < w * h
        · have z := c1 b hb (by rw [Nat.mul_comm]; exact hbn)
          rw [decide_eq_true hbn]
          exact ⟨z.2.1, fun _ => z.1⟩
        · rw [decide_eq_false hbn]
          exact ⟨c2 b hb (by rw [Nat.mul_comm]; omega) 0 (by omega), fun z => by cases z⟩
      · rw [c3 _ _ (by omega), h4, if_pos ⟨rfl, .inl rfl⟩]
      · rw [c3 _ _ (by omega), h4, if_pos ⟨rfl, by omega⟩]
      · rw [c3 _ _ (by omega), h4, if_neg (by omega)]
end
