/-! A BURSTING over the model's rings -/
theorem within_o {x l h : Nat} (hx : x < 1000000) (hl : l < 1000000) (hh : h < 1000000) : fX9_within (o32 x) (o32 l) (o32 h) = if l ≤ x ∧ x ≤ h then 1 else 0 := by
  unfold fX9_within
  by_cases h1 : x < l
  · rw [if_pos (by rw [o_lt (by omega) (by omega)]; exact h1), if_neg (by omega)]
  · rw [if_neg (by rw [o_lt (by omega) (by omega)]; exact h1)]
    by_cases h2 : h < x
    · rw [if_pos (by rw [o_lt (by omega) (by omega)]; exact h2), if_neg (by omega)]
    · rw [if_neg (by rw [o_lt (by omega) (by omega)]; exact h2), if_pos (by omega)]
theorem is_s {m : Mem} {r : Nat → List Nat} {al : Nat → Bool} {x : Nat} (hx : x < 16) (hs : RS m r al) : fX9_is (o32 x) m = some (i01 (al x)) := by
  have w : fX9_within (o32 x) 0 15 = 1 := by
    rw [show fX9_within (o32 x) 0 15 = _ from within_o (l := 0) (h := 15) (by omega) (by omega) (by omega), if_pos (by omega)]
  unfold fX9_is
  rw [w, if_neg (by decide), show fX9_of (o32 x) 0 m = _ from of_o (f := 0) hx (by omega), Option.bind_some, Nat.add_zero, (hs x hx).1]
  cases al x <;> rfl
theorem min_o {a b : Nat} (ha : a < 1000) (hb : b < 1000) : fJ9_min_7cf53 (o32 a) (o32 b) = o32 (min a b) := by
  unfold fJ9_min_7cf53
  by_cases h : a ≤ b
  · rw [show min a b = a by omega]
    by_cases h2 : b < a
    · omega
    · first
      | rw [if_pos (by rw [o_le (by omega) (by omega)]; exact h)]
      | (rw [if_neg (by rw [o_lt (by omega) (by omega)]; omega)])
  · rw [show min a b = b by omega]
    first
    | rw [if_neg (by rw [o_le (by omega) (by omega)]; exact h)]
    | rw [if_pos (by rw [o_lt (by omega) (by omega)]; omega)]
theorem max_o {a b : Nat} (ha : a < 1000) (hb : b < 1000) : fJ9_max_7cf53 (o32 a) (o32 b) = o32 (max a b) := by
  unfold fJ9_max_7cf53
  by_cases h : b ≤ a
  · rw [show max a b = a by omega]
    first
    | rw [if_neg (by rw [o_lt (by omega) (by omega)]; omega)]
    | rw [if_pos (by rw [o_le (by omega) (by omega)]; omega)]
  · rw [show max a b = b by omega]
    first
    | rw [if_pos (by rw [o_lt (by omega) (by omega)]; omega)]
    | rw [if_neg (by rw [o_le (by omega) (by omega)]; omega)]
theorem at_z {m : Mem} {b p k : Nat} {l : List Nat} (hb : b < 16) (h : rgAt m b l) (hp : p < l.length) (hk : k ≤ l.length) : fX9_at (o32 b) (o32 p + o32 k) m = some (o32 (l.getD ((p + k) % l.length) 0)) := by
  have h1 := h.1
  have hz : (p + k) % l.length < l.length := Nat.mod_lt _ (by omega)
  rw [o_add, at_s hb h hz]
  · rw [List.getD_eq_getElem?_getD, List.getElem?_eq_getElem hz]
    rfl
  · rw [o_ti (by omega)]
    by_cases h2 : p + k < l.length
    · left; rw [Nat.mod_eq_of_lt h2]
    · right; left
      rw [Nat.mod_eq_sub_mod (by omega)]
      by_cases h3 : p + k - l.length < l.length
      · rw [Nat.mod_eq_of_lt h3]; omega
      · omega
def seamA (l : List Nat) (p : Nat) : List Nat := (List.range (l.length - 1)).map (fun k => l.getD ((p + (1 + k)) % l.length) 0)
def seamB (l : List Nat) (q : Nat) : List Nat := (List.range (l.length - 3)).map (fun k => l.getD ((q + (2 + k)) % l.length) 0)
def seam (r : Nat → List Nat) (a b : Nat) : List Nat := seamA (r a) ((r a).idxOf b) ++ seamB (r b) ((r b).idxOf a)
theorem seam_len (r : Nat → List Nat) (a b : Nat) : (seam r a b).length = ((r a).length - 1) + ((r b).length - 3) := by
  unfold seam seamA seamB
  simp
/-- the memory while the seam is sewn -/
def swM (m : Mem) (sw : List Nat) (j : Nat) : Mem := fun c i => if c = 142 ∧ i < j then o32 (sw.getD i 0) else m c i
theorem swM_0 (m : Mem) (sw : List Nat) : swM m sw 0 = m := by
  funext c i
  unfold swM
  rw [if_neg (by omega)]
theorem swM_s (m : Mem) (sw : List Nat) (j : Nat) : mput (swM m sw j) 142 j (o32 (sw.getD j 0)) = swM m sw (j + 1) := by
  funext c i
  rw [mput_get]
  unfold swM
  by_cases h : c = 142 ∧ i = j
  · rw [if_pos h, if_pos (by omega), h.2]
  · rw [if_neg h]
    by_cases h2 : c = 142 ∧ i < j
    · rw [if_pos h2, if_pos (by omega)]
    · rw [if_neg h2, if_neg (by omega)]
theorem rgAt_142 {m m' : Mem} {b : Nat} {l : List Nat} (h : rgAt m b l) (ho : ∀ i, m' 138 i = m 138 i) : rgAt m' b l := by
  obtain ⟨h1, h2, h3, h4⟩ := h
  exact ⟨h1, by rw [ho]; exact h2, h3, fun i hi => by rw [ho]; exact h4 i hi⟩
theorem swM_138 (m : Mem) (sw : List Nat) (j i : Nat) : swM m sw j 138 i = m 138 i := by
  unfold swM
  rw [if_neg (by omega)]
/-- the ring of x when a stands for b too -/
def stand (l : List Nat) (a b : Nat) : List Nat := if a ∈ l then rmv l b else l.set (l.idxOf b) a
def burX (r : Nat → List Nat) (al : Nat → Bool) (a b i : Nat) : Nat → List Nat := fun y => if y < i ∧ y ≠ a ∧ y ≠ b ∧ al y = true ∧ b ∈ r y then stand (r y) a b else r y
def wrM (m : Mem) (a : Nat) (sw : List Nat) (j : Nat) : Mem := fun c i => if c = 138 ∧ 12 + 50 * a + 6 ≤ i ∧ i < 12 + 50 * a + 6 + j then o32 (sw.getD (i - (12 + 50 * a + 6)) 0) else m c i
/-- the memory behind a bursting -/
noncomputable def burM (m : Mem) (a b : Nat) (sw : List Nat) : Mem :=
  let m1 := mput (mput (wrM m a sw sw.length) 138 (12 + 50 * a + 5) (o32 sw.length)) 138 (12 + 50 * a + 1) 6
  let m2 := mput m1 138 (12 + 50 * a + 2) (fJ9_min_7cf53 99999 (m 138 (12 + 50 * a + 2) + m 138 (12 + 50 * b + 2)))
  let m3 := mput m2 138 (12 + 50 * a + 3) (fJ9_min_7cf53 99999 (m 138 (12 + 50 * a + 3) + m 138 (12 + 50 * b + 3)))
  mput m3 138 (12 + 50 * b + 0) 0
theorem write_s {m : Mem} {a b : Nat} {sw : List Nat} (ha : a < 16) (hb : b < 16) (hab : a ≠ b) (hl : sw.length ≤ 44) (h142 : ∀ i, i < sw.length → m 142 i = o32 (sw.getD i 0)) : lp (lX9_bursts_213 (o32 a) (o32 b) (o32 sw.length)) fu (0, m) = some (o32 a, mput (burM m a b sw) 138 10 (m 138 10 + 1)) := by
  have st : ((0 : Int32), m) = (fun j => (o32 j, wrM m a sw j)) 0 := by
    show _ = (o32 0, wrM m a sw 0)
    have : wrM m a sw 0 = m := by
      funext c i
      unfold wrM
      rw [if_neg (by omega)]
    rw [this]
    rfl
  rw [st]
  refine lp_fwd (body := lX9_bursts_213 (o32 a) (o32 b) (o32 sw.length)) sw.length (fun j => (o32 j, wrM m a sw j)) fu (fun j hj => ?_) ?_ (lt_fu (by omega))
  · unfold lX9_bursts_213
    dsimp only
    rw [if_neg (by rw [o_le (by omega) (by omega)]; omega), if_pos (o_inb (by omega) (by omega)), tr_o ha (by omega), Option.bind_some, o_s, o_tn (by omega)]
    have e : wrM m a sw j 142 j = o32 (sw.getD j 0) := by
      unfold wrM
      rw [if_neg (by omega)]
      exact h142 j hj
    rw [e]
    congr 3
    funext c i
    rw [mput_get]
    unfold wrM
    by_cases h : c = 138 ∧ i = 12 + 50 * a + (6 + j)
    · rw [if_pos h, if_pos (by omega), h.2]
      congr 2
      omega
    · rw [if_neg h]
      by_cases h2 : c = 138 ∧ 12 + 50 * a + 6 ≤ i ∧ i < 12 + 50 * a + 6 + j
      · rw [if_pos h2, if_pos (by omega)]
      · rw [if_neg h2, if_neg (by omega)]
  · unfold lX9_bursts_213
    dsimp only
    have W : ∀ c i, ¬ (c = 138 ∧ 12 + 50 * a + 6 ≤ i ∧ i < 12 + 50 * a + 6 + sw.length) → wrM m a sw sw.length c i = m c i := fun c i h => by
      unfold wrM
      rw [if_neg h]
    rw [if_pos (by rw [o_le (by omega) (by omega)]; omega)]
    have T5 : ∀ q, fX9_tells (o32 a) 5 (o32 sw.length) q = some (mput q 138 (12 + 50 * a + 5) (o32 sw.length)) := fun q => tl_o (f := 5) ha (by omega)
    have T1 : ∀ q, fX9_tells (o32 a) 1 6 q = some (mput q 138 (12 + 50 * a + 1) 6) := fun q => tl_o (f := 1) ha (by omega)
    have T2 : ∀ v q, fX9_tells (o32 a) 2 v q = some (mput q 138 (12 + 50 * a + 2) v) := fun v q => tl_o (f := 2) ha (by omega)
    have T3 : ∀ v q, fX9_tells (o32 a) 3 v q = some (mput q 138 (12 + 50 * a + 3) v) := fun v q => tl_o (f := 3) ha (by omega)
    have T0 : ∀ v q, fX9_tells (o32 b) 0 v q = some (mput q 138 (12 + 50 * b + 0) v) := fun v q => tl_o (f := 0) hb (by omega)
    have O2a : ∀ q, fX9_of (o32 a) 2 q = some (q 138 (12 + 50 * a + 2)) := fun q => of_o (f := 2) ha (by omega)
    have O2b : ∀ q, fX9_of (o32 b) 2 q = some (q 138 (12 + 50 * b + 2)) := fun q => of_o (f := 2) hb (by omega)
    have O3a : ∀ q, fX9_of (o32 a) 3 q = some (q 138 (12 + 50 * a + 3)) := fun q => of_o (f := 3) ha (by omega)
    have O3b : ∀ q, fX9_of (o32 b) 3 q = some (q 138 (12 + 50 * b + 3)) := fun q => of_o (f := 3) hb (by omega)
    simp only [T5, T1, T2, T3, T0, O2a, O2b, O3a, O3b, Option.bind_some]
    have g2a : mput (mput (wrM m a sw sw.length) 138 (12 + 50 * a + 5) (o32 sw.length)) 138 (12 + 50 * a + 1) 6 138 (12 + 50 * a + 2) = m 138 (12 + 50 * a + 2) := by
      rw [mput_get, if_neg (by omega), mput_get, if_neg (by omega), W _ _ (by omega)]
    have g2b : mput (mput (wrM m a sw sw.length) 138 (12 + 50 * a + 5) (o32 sw.length)) 138 (12 + 50 * a + 1) 6 138 (12 + 50 * b + 2) = m 138 (12 + 50 * b + 2) := by
      rw [mput_get, if_neg (by omega), mput_get, if_neg (by omega), W _ _ (by omega)]
    have g3a : ∀ v, mput (mput (mput (wrM m a sw sw.length) 138 (12 + 50 * a + 5) (o32 sw.length)) 138 (12 + 50 * a + 1) 6) 138 (12 + 50 * a + 2) v 138 (12 + 50 * a + 3) = m 138 (12 + 50 * a + 3) := fun v => by
      rw [mput_get, if_neg (by omega), mput_get, if_neg (by omega), mput_get, if_neg (by omega), W _ _ (by omega)]
    have g3b : ∀ v, mput (mput (mput (wrM m a sw sw.length) 138 (12 + 50 * a + 5) (o32 sw.length)) 138 (12 + 50 * a + 1) 6) 138 (12 + 50 * a + 2) v 138 (12 + 50 * b + 3) = m 138 (12 + 50 * b + 3) := fun v => by
      rw [mput_get, if_neg (by omega), mput_get, if_neg (by omega), mput_get, if_neg (by omega), W _ _ (by omega)]
    rw [g2a, g2b, g3a, g3b]
    have g10 : burM m a b sw 138 10 = m 138 10 := by
      unfold burM
      rw [mput_get, if_neg (by omega), mput_get, if_neg (by omega), mput_get, if_neg (by omega), mput_get, if_neg (by omega), mput_get, if_neg (by omega), W _ _ (by omega)]
    rw [← g10]
    rfl
/-- what stands in the memory behind a bursting -/
theorem burM_RS {m : Mem} {r1 : Nat → List Nat} {al : Nat → Bool} {a b : Nat} {sw : List Nat} (ha : a < 16) (hb : b < 16) (hab : a ≠ b) (hs : RS m r1 al) (hl : sw.length ≤ 44) (h16 : ∀ x ∈ sw, x ≤ 16) : RS (burM m a b sw) (setR r1 a sw) (offB al b) ∧ (∀ c j, ¬ (c = 138 ∧ 12 ≤ j ∧ j < 812) → burM m a b sw c j = m c j) := by
  have W : ∀ c i, burM m a b sw c i = if c = 138 ∧ i = 12 + 50 * b + 0 then 0 else if c = 138 ∧ i = 12 + 50 * a + 3 then fJ9_min_7cf53 99999 (m 138 (12 + 50 * a + 3) + m 138 (12 + 50 * b + 3)) else if c = 138 ∧ i = 12 + 50 * a + 2 then fJ9_min_7cf53 99999 (m 138 (12 + 50 * a + 2) + m 138 (12 + 50 * b + 2)) else if c = 138 ∧ i = 12 + 50 * a + 1 then 6 else if c = 138 ∧ i = 12 + 50 * a + 5 then o32 sw.length else wrM m a sw sw.length c i := fun c i => by
    unfold burM
    rw [mput_get, mput_get, mput_get, mput_get, mput_get]
  refine ⟨fun x hx => ⟨?_, fun hax => ?_⟩, fun c j hn => ?_⟩
  · rw [W]
    by_cases e : x = b
    · rw [if_pos ⟨rfl, by omega⟩]
      unfold offB
      rw [if_pos e]
      rfl
    · rw [if_neg (by omega), if_neg (by omega), if_neg (by omega), if_neg (by omega), if_neg (by omega)]
      unfold wrM offB
      rw [if_neg (by omega), if_neg e]
      exact (hs x hx).1
  · have hxb : x ≠ b := fun z => by unfold offB at hax; rw [if_pos z] at hax; cases hax
    have hax : al x = true := by unfold offB at hax; rw [if_neg hxb] at hax; exact hax
    by_cases e : x = a
    · subst e
      rw [setR_at]
      refine ⟨hl, ?_, h16, fun k hk => ?_⟩
      · rw [W, if_neg (by omega), if_neg (by omega), if_neg (by omega), if_neg (by omega), if_pos ⟨rfl, rfl⟩]
      · rw [W, if_neg (by omega), if_neg (by omega), if_neg (by omega), if_neg (by omega), if_neg (by omega)]
        unfold wrM
        rw [if_pos (by omega), show 12 + 50 * x + (6 + k) - (12 + 50 * x + 6) = k by omega, List.getD_eq_getElem?_getD, List.getElem?_eq_getElem hk]
        rfl
    · rw [setR_ne _ _ e]
      obtain ⟨q1, q2, q3, q4⟩ := (hs x hx).2 hax
      refine ⟨q1, ?_, q3, fun k hk => ?_⟩
      · rw [W, if_neg (by omega), if_neg (by omega), if_neg (by omega), if_neg (by omega), if_neg (by omega)]
        unfold wrM
        rw [if_neg (by omega)]
        exact q2
      · rw [W, if_neg (by omega), if_neg (by omega), if_neg (by omega), if_neg (by omega), if_neg (by omega)]
        unfold wrM
        rw [if_neg (by omega)]
        exact q4 k hk
  · rw [W, if_neg (by omega), if_neg (by omega), if_neg (by omega), if_neg (by omega), if_neg (by omega)]
    unfold wrM
    rw [if_neg (by omega)]
/-- for all the others a stands for b too -/
theorem others_s {m : Mem} {r : Nat → List Nat} {al : Nat → Bool} {a b : Nat} {sw : List Nat} (ha : a < 16) (hb : b < 16) (hab : a ≠ b) (hs : RS m r al) (hg : Gr r al) (hl : sw.length ≤ 44) (h142 : ∀ i, i < sw.length → m 142 i = o32 (sw.getD i 0)) : ∃ m1, lp (lX9_bursts_119 (o32 a) (o32 b) (o32 sw.length)) fu (0, m) = some (o32 a, mput (burM m1 a b sw) 138 10 (m 138 10 + 1)) ∧ RS m1 (burX r al a b 16) al ∧ frR m m1 := by
  have key := lp_ix (body := lX9_bursts_119 (o32 a) (o32 b) (o32 sw.length)) (fun i s => s.1 = o32 i ∧ RS s.2 (burX r al a b i) al ∧ frR m s.2) (fun e => ∃ m1, e = (o32 a, mput (burM m1 a b sw) 138 10 (m 138 10 + 1)) ∧ RS m1 (burX r al a b 16) al ∧ frR m m1) 16 0 (0, m) fu ⟨rfl, by
      intro y hy
      have e : burX r al a b 0 y = r y := by unfold burX; rw [if_neg (by omega)]
      rw [e]
      exact hs y hy, frR_rf⟩ (fun x s _ hx hI => ?_) (fun s hI => ?_) (lt_fu (by omega))
  · obtain ⟨e, e1, m1, e2, e3⟩ := key
    exact ⟨m1, by rw [← e2]; exact e1, e3⟩
  · obtain ⟨i1, i2, i3⟩ := hI
    have hx : x < 16 := by omega
    have bx : burX r al a b x x = r x := by unfold burX; rw [if_neg (by omega)]
    have same : (x ≠ a → x ≠ b → al x = true → b ∉ r x) → burX r al a b (x + 1) = burX r al a b x := fun h => by
      funext y
      unfold burX
      by_cases e : y = x
      · subst e
        rw [if_neg (fun z => h z.2.1 z.2.2.1 z.2.2.2.1 z.2.2.2.2), if_neg (by omega)]
      · by_cases e2 : y < x
        · simp only [show (y < x + 1) = True by simp; omega, show (y < x) = True by simp; omega]
        · simp only [show (y < x + 1) = False by simp; omega, show (y < x) = False by simp; omega]
    unfold lX9_bursts_119
    rw [i1, if_neg (by rw [show (16 : Int32) = o32 16 from rfl, o_le (by omega) (by omega)]; omega)]
    by_cases q1 : x = a
    · rw [if_pos (by rw [q1]), o_s]
      exact ⟨_, rfl, rfl, by rw [same (fun h => absurd q1 h)]; exact i2, i3⟩
    · rw [if_neg (by rw [o_eq (by omega) (by omega)]; exact q1)]
      by_cases q2 : x = b
      · rw [if_pos (by rw [q2]), o_s]
        exact ⟨_, rfl, rfl, by rw [same (fun _ h => absurd q2 h)]; exact i2, i3⟩
      · rw [if_neg (by rw [o_eq (by omega) (by omega)]; exact q2), is_s hx i2, Option.bind_some]
        by_cases q3 : al x = true
        · have sx := (i2 x hx).2 q3
          rw [bx] at sx
          rw [q3, if_neg (by decide), isWall_s hx (by omega) sx, Option.bind_some]
          by_cases q4 : b ∈ r x
          · rw [if_pos q4, if_neg (by decide), isWall_s hx (by omega) sx, Option.bind_some]
            have new : burX r al a b (x + 1) = setR (burX r al a b x) x (stand (r x) a b) := by
              funext y
              unfold burX setR
              by_cases e : y = x
              · rw [e, if_pos ⟨by omega, q1, q2, q3, q4⟩, if_pos rfl]
              · rw [if_neg e]
                by_cases e2 : y < x
                · simp only [show (y < x + 1) = True by simp; omega, show (y < x) = True by simp; omega]
                · simp only [show (y < x + 1) = False by simp; omega, show (y < x) = False by simp; omega]
            rw [new]
            by_cases q5 : a ∈ r x
            · rw [if_pos q5, if_neg (by decide), placeIn_s hx (by omega) sx, Option.bind_some]
              obtain ⟨m', e1, s1, o1⟩ := shutsP hx sx q4
              rw [e1, Option.bind_some, o_s]
              refine ⟨_, rfl, rfl, RS_set hx i2 o1 ?_, frR_tr i3 (frR_of hx o1)⟩
              unfold stand
              rw [if_pos q5]
              exact s1
            · rw [if_neg q5, if_pos rfl, placeIn_s hx (by omega) sx, Option.bind_some, plc_in q4]
              have hi := List.idxOf_lt_length_of_mem q4
              have l1 := sx.1
              rw [tr_o hx (by omega), Option.bind_some, o_s]
              have o1 : offR s.2 (mput s.2 138 (12 + 50 * x + (6 + (r x).idxOf b)) (o32 a)) x := fun c j hn => by
                rw [mput_get, if_neg (by omega)]
              refine ⟨_, rfl, rfl, RS_set hx i2 o1 ?_, frR_tr i3 (frR_of hx o1)⟩
              unfold stand
              rw [if_neg q5]
              obtain ⟨p1, p2, p3, p4⟩ := sx
              refine ⟨by rw [List.length_set]; exact p1, ?_, fun y hy => ?_, fun k hk => ?_⟩
              · dsimp only
                rw [mput_get, if_neg (by omega), List.length_set]; exact p2
              · rcases List.mem_or_eq_of_mem_set hy with z | z
                · exact p3 y z
                · omega
              · rw [List.length_set] at hk
                dsimp only
                rw [mput_get, List.getElem_set]
                by_cases e : (r x).idxOf b = k
                · rw [if_pos (by omega), if_pos e]
                · rw [if_neg (by omega), if_neg e]
                  exact p4 k hk
          · rw [if_neg q4, if_pos rfl, o_s]
            exact ⟨_, rfl, rfl, by rw [same (fun _ _ _ => q4)]; exact i2, i3⟩
        · have q3' : al x = false := by simpa using q3
          rw [q3', if_pos (by decide), o_s]
          exact ⟨_, rfl, rfl, by rw [same (fun _ _ h => absurd h q3)]; exact i2, i3⟩
  · obtain ⟨i1, i2, i3⟩ := hI
    rw [Nat.zero_add] at i1 i2
    unfold lX9_bursts_119
    rw [i1, if_pos (by decide)]
    have h142' : ∀ i, i < sw.length → s.2 142 i = o32 (sw.getD i 0) := fun i hi => by
      rw [i3 142 i (fun z => by omega)]
      exact h142 i hi
    rw [write_s ha hb hab hl h142', i3 138 10 (fun z => by obtain ⟨_, b', _, h1, _⟩ := z; omega)]
    exact ⟨_, rfl, s.2, rfl, i2, i3⟩
theorem Ur_two {r : Nat → List Nat} {al : Nat → Bool} {a b : Nat} (ha : a < 16) (hb : b < 16) (hab : a ≠ b) (ala : al a = true) (alb : al b = true) : wt (r a) + wt (r b) ≤ Ur r al := by
  have h1 := Ur_set (r := r) (l := []) ha ala
  have h2 := Ur_ge (r := setR r a []) hb alb
  rw [setR_ne _ _ hab.symm] at h2
  have : wt [] = 0 := rfl
  omega
theorem seam_g1 {r : Nat → List Nat} {a b k : Nat} (hk : k < (r a).length - 1) : (seam r a b).getD k 0 = (r a).getD (((r a).idxOf b + (1 + k)) % (r a).length) 0 := by
  unfold seam seamA
  rw [List.getD_eq_getElem?_getD, List.getElem?_append_left (by simp; omega), List.getElem?_map, List.getElem?_range hk]
  rfl
theorem seam_g2 {r : Nat → List Nat} {a b k : Nat} (hk : k < (r b).length - 3) : (seam r a b).getD ((r a).length - 1 + k) 0 = (r b).getD (((r b).idxOf a + (2 + k)) % (r b).length) 0 := by
  have hl : (seamA (r a) ((r a).idxOf b)).length = (r a).length - 1 := by unfold seamA; simp
  unfold seam
  rw [List.getD_eq_getElem?_getD, List.getElem?_append_right (by omega), hl, Nat.add_sub_cancel_left]
  unfold seamB
  rw [List.getElem?_map, List.getElem?_range hk]
  rfl
/-- what bursts, in whole: the lesser stays -/
theorem bursts_lo {m : Mem} {r : Nat → List Nat} {al : Nat → Bool} {a b : Nat} (ha : a < 16) (hb : b < 16) (hab : a ≠ b) (hs : RS m r al) (hg : Gr r al) (ala : al a = true) (alb : al b = true) (hm : b ∈ r a) : ∃ m1, lp (lX9_bursts_37 (o32 a) (o32 b) (plc (r a) b) (plc (r b) a)) fu (0, 1, m) = some (o32 a, mput (burM m1 a b (seam r a b)) 138 10 (m 138 10 + 1)) ∧ RS m1 (burX r al a b 16) al ∧ (∀ c j, ¬ (c = 138 ∧ ∃ b, b < 16 ∧ 12 + 50 * b + 5 ≤ j ∧ j < 12 + 50 * b + 50) → c ≠ 142 → m1 c j = m c j) := by
  have sa := (hs a ha).2 ala
  have sb := (hs b hb).2 alb
  have hm2 : a ∈ r b := ((hg.1 a ha ala b hm).2 (by omega)).2.2
  have pa := List.idxOf_lt_length_of_mem hm
  have pb := List.idxOf_lt_length_of_mem hm2
  have la := Gr_len hg ha ala
  have lb := Gr_len hg hb alb
  have sl := seam_len r a b
  rw [plc_in hm, plc_in hm2]
  -- the memory behind the sewing
  have S : ∀ j, RS (swM m (seam r a b) j) r al := fun j y hy => ⟨by rw [swM_138]; exact (hs y hy).1, fun hay => rgAt_142 ((hs y hy).2 hay) (fun i => swM_138 _ _ _ _)⟩
  have u2 := Ur_two (r := r) ha hb hab ala alb
  have u27 := hg.2.2
  unfold wt at u2
  have len44 : (seam r a b).length ≤ 44 := by omega
  have h142 : ∀ i, i < (seam r a b).length → swM m (seam r a b) (seam r a b).length 142 i = o32 ((seam r a b).getD i 0) := fun i hi => by
    unfold swM
    rw [if_pos ⟨rfl, hi⟩]
  obtain ⟨m1, e1, s1, f1⟩ := others_s ha hb hab (S (seam r a b).length) hg len44 h142
  have e10 : swM m (seam r a b) (seam r a b).length 138 10 = m 138 10 := swM_138 _ _ _ _
  rw [e10] at e1
  refine ⟨m1, ?_, s1, fun c j h1 h2 => ?_⟩
  · have L2 : lp (lX9_bursts_76 (o32 a) (o32 b) (o32 ((r b).idxOf a))) fu (o32 ((r a).length - 1), 2, swM m (seam r a b) ((r a).length - 1)) = some (o32 a, mput (burM m1 a b (seam r a b)) 138 10 (m 138 10 + 1)) := by
      have st : (o32 ((r a).length - 1), (2 : Int32), swM m (seam r a b) ((r a).length - 1)) = (fun k => (o32 ((r a).length - 1 + k), o32 (2 + k), swM m (seam r a b) ((r a).length - 1 + k))) 0 := rfl
      rw [st]
      have ex : ∀ k, fX9_sidesOf (o32 b) (swM m (seam r a b) k) = some (o32 (r b).length) := fun k => by rw [sd_o hb, ((S k b hb).2 alb).2.1]
      have e9 : o32 (r b).length - 1 = o32 ((r b).length - 1) := o_sub (b := 1) (by omega) (by omega)
      refine lp_fwd (body := lX9_bursts_76 (o32 a) (o32 b) (o32 ((r b).idxOf a))) ((r b).length - 3) (fun k => (o32 ((r a).length - 1 + k), o32 (2 + k), swM m (seam r a b) ((r a).length - 1 + k))) fu (fun k hk => ?_) ?_ (lt_fu (by omega))
      · unfold lX9_bursts_76
        dsimp only
        rw [ex, Option.bind_some, e9, if_neg (by rw [o_le (by omega) (by omega)]; omega), at_z hb ((S _ b hb).2 alb) pb (by omega), Option.bind_some, if_pos (o_inb (by omega) (by omega)), o_tn (by omega), ← seam_g2 hk, swM_s, o_s, o_s]
        rfl
      · unfold lX9_bursts_76
        dsimp only
        rw [ex, Option.bind_some, e9, if_pos (by rw [o_le (by omega) (by omega)]; omega), ← sl, e1]
        rfl
    have st : ((0 : Int32), (1 : Int32), m) = (fun k => (o32 k, o32 (1 + k), swM m (seam r a b) k)) 0 := by
      show _ = (o32 0, o32 (1 + 0), swM m (seam r a b) 0)
      rw [swM_0]
      rfl
    rw [st]
    have ex : ∀ k, fX9_sidesOf (o32 a) (swM m (seam r a b) k) = some (o32 (r a).length) := fun k => by rw [sd_o ha, ((S k a ha).2 ala).2.1]
    refine lp_fwd (body := lX9_bursts_37 (o32 a) (o32 b) (o32 ((r a).idxOf b)) (o32 ((r b).idxOf a))) ((r a).length - 1) (fun k => (o32 k, o32 (1 + k), swM m (seam r a b) k)) fu (fun k hk => ?_) ?_ (lt_fu (by omega))
    · unfold lX9_bursts_37
      dsimp only
      rw [ex, Option.bind_some, if_neg (by rw [o_le (by omega) (by omega)]; omega), at_z ha ((S _ a ha).2 ala) pa (by omega), Option.bind_some, if_pos (o_inb (by omega) (by omega)), o_tn (by omega), ← seam_g1 hk, swM_s, o_s, o_s]
      rfl
    · unfold lX9_bursts_37
      dsimp only
      rw [ex, Option.bind_some, if_pos (by rw [o_le (by omega) (by omega)]; omega), L2]
      rfl
  · rw [f1 c j h1]
    unfold swM
    rw [if_neg (fun z => h2 z.1)]
theorem bursts_s {m : Mem} {r : Nat → List Nat} {al : Nat → Bool} {a b : Nat} (ha : a < 16) (hb : b < 16) (hab : a ≠ b) (hs : RS m r al) (hg : Gr r al) (ala : al a = true) (alb : al b = true) (hm : max a b ∈ r (min a b)) : ∃ m1, fX9_bursts (o32 a) (o32 b) m = some (o32 (min a b), mput (burM m1 (min a b) (max a b) (seam r (min a b) (max a b))) 138 10 (m 138 10 + 1)) ∧ RS m1 (burX r al (min a b) (max a b) 16) al ∧ (∀ c j, ¬ (c = 138 ∧ ∃ b, b < 16 ∧ 12 + 50 * b + 5 ≤ j ∧ j < 12 + 50 * b + 50) → c ≠ 142 → m1 c j = m c j) := by
  have h1 : min a b < 16 := by omega
  have h2 : max a b < 16 := by omega
  have h3 : min a b ≠ max a b := by omega
  have a1 : al (min a b) = true := by rcases Nat.le_total a b with h | h <;> simp [Nat.min_def] <;> split <;> assumption
  have a2 : al (max a b) = true := by rcases Nat.le_total a b with h | h <;> simp [Nat.max_def] <;> split <;> assumption
  have sa := (hs _ h1).2 a1
  have sb := (hs _ h2).2 a2
  unfold fX9_bursts
  rw [min_o (by omega) (by omega), max_o (by omega) (by omega), placeIn_s h1 (by omega) sa, Option.bind_some, placeIn_s h2 (by omega) sb, Option.bind_some]
  exact bursts_lo h1 h2 h3 hs hg a1 a2 hm
