/-! THE CLASS: A WALL BURSTS -/
theorem cg_same {k : Nat} {m m' : Mem} {b : Nat} {l : List Nat} (hb : b < 16) (h : cg k m b l) (e : ∀ c j, c ≠ cw k 25 → m' c j = m c j) : cg k m' b l := ⟨h.1, by rw [e _ _ (cw_ne (by omega))]; exact h.2.1, h.2.2.1, fun i hi => by rw [e _ _ (cw_ne (by omega))]; exact h.2.2.2 i hi⟩
theorem CS_same {k : Nat} {m m' : Mem} {r : Nat → List Nat} {al : Nat → Bool} (h : CS k m r al) (e : ∀ c j, (c = cw k 2 ∧ j = 0) ∨ c = cw k 7 ∨ (∃ b, b < 16 ∧ c = cw k (9 + b)) → m' c j = m c j) : CS k m' r al := by
  obtain ⟨⟨n, h1, h2, h3⟩, h4⟩ := h
  refine ⟨⟨n, h1, by rw [e _ _ (.inl ⟨rfl, rfl⟩)]; exact h2, h3⟩, fun b hb => ?_⟩
  have q := h4 b hb
  exact ⟨q.1, by rw [e _ _ (.inr (.inl rfl))]; exact q.2.1, q.2.2.1, fun i hi => by rw [e _ _ (.inr (.inr ⟨b, hb, rfl⟩))]; exact q.2.2.2 i hi⟩
def swC (k : Nat) (m : Mem) (sw : List Nat) (j : Nat) : Mem := fun c i => if c = cw k 25 ∧ i < j then o32 (sw.getD i 0) else m c i
theorem swC_0 (k : Nat) (m : Mem) (sw : List Nat) : swC k m sw 0 = m := by
  funext c i
  unfold swC
  rw [if_neg (by omega)]
theorem swC_s (k : Nat) (m : Mem) (sw : List Nat) (j : Nat) : mput (swC k m sw j) (cw k 25) j (o32 (sw.getD j 0)) = swC k m sw (j + 1) := by
  funext c i
  rw [mput_get]
  unfold swC
  by_cases e : c = cw k 25
  · by_cases e2 : i = j
    · rw [if_pos ⟨e, e2⟩, if_pos ⟨e, by omega⟩, e2]
    · rw [if_neg (fun z => e2 z.2)]
      by_cases e3 : i < j
      · rw [if_pos ⟨e, e3⟩, if_pos ⟨e, by omega⟩]
      · rw [if_neg (fun z => e3 z.2), if_neg (fun z => by omega)]
  · rw [if_neg (fun z => e z.1), if_neg (fun z => e z.1), if_neg (fun z => e z.1)]
theorem swC_ne {k : Nat} {m : Mem} {sw : List Nat} {j c i : Nat} (h : c ≠ cw k 25) : swC k m sw j c i = m c i := if_neg (fun z => h z.1)
theorem join_c {k : Nat} {m : Mem} {r : Nat → List Nat} {al : Nat → Bool} {a b : Nat} (ha : a < 16) (hb : b < 16) (hs : CS k m r al) (ala : al a = true) (alb : al b = true) (hab : b ∈ r a) (hba : a ∈ r b) (hl : 3 ≤ (r b).length) (h30 : (seam r a b).length ≤ 30) : fX0_joinRings k (o32 a) (o32 b) m = some (o32 (seam r a b).length, swC k m (seam r a b) (seam r a b).length) := by
  have ga := CS_g hs ha ala
  have gb := CS_g hs hb alb
  have la := ga.1
  have lb := gb.1
  have ia := List.idxOf_lt_length_of_mem hab
  have ib := List.idxOf_lt_length_of_mem hba
  have sl := seam_len r a b
  have gA : ∀ j, cg k (swC k m (seam r a b) j) a (r a) := fun j => cg_same ha ga (fun c i h => swC_ne h)
  have gB : ∀ j, cg k (swC k m (seam r a b) j) b (r b) := fun j => cg_same hb gb (fun c i h => swC_ne h)
  unfold fX0_joinRings
  rw [placeOf_c ha (by omega) ga, plc_in hab, Option.bind_some, sidesOf_c ha ga, Option.bind_some, o_s, show o32 (r a).length - 1 = o32 ((r a).length - 1) from o_sub (b := 1) (by omega) (by omega)]
  have st := lp_fwd (body := lX0_joinRings_24 k (o32 a) (o32 b) (o32 ((r a).idxOf b + 1)) (o32 ((r a).length - 1))) (e := (o32 (seam r a b).length, swC k m (seam r a b) (seam r a b).length)) ((r a).length - 1) (fun j => (o32 j, o32 j, swC k m (seam r a b) j)) fu (fun j hj => ?_) ?_ (lt_fu (by omega))
  · skip
    rw [swC_0] at st
    exact st
  · unfold lX0_joinRings_24
    dsimp only
    rw [if_neg (by rw [o_le (by omega) (by omega)]; omega), if_neg (by rw [show (30 : Int32) = o32 30 from rfl, o_le (by omega) (by omega)]; omega), o_add, at_c ha (gA j) (by omega) (by omega), Option.bind_some, if_pos (o_inb (by omega) (by omega)), o_tn (by omega), o_s, Nat.add_assoc, ← seam_g1 hj, swC_s]
  · have last : bX0_joinRings_62 k (o32 a) (o32 b) (o32 ((r a).length - 1)) (swC k m (seam r a b) ((r a).length - 1)) = some (o32 (seam r a b).length, swC k m (seam r a b) (seam r a b).length) := by
      unfold bX0_joinRings_62
      rw [placeOf_c hb (by omega) (gB _), plc_in hba, Option.bind_some, sidesOf_c hb (gB _), Option.bind_some, show o32 (r b).length - 3 = o32 ((r b).length - 3) from o_sub (b := 3) (by omega) (by omega), show o32 ((r b).idxOf a) + 2 = o32 ((r b).idxOf a + 2) from o_add _ 2]
      refine lp_fwd (body := lX0_joinRings_84 k (o32 b) (o32 ((r b).idxOf a + 2)) (o32 ((r b).length - 3))) ((r b).length - 3) (fun j => (o32 ((r a).length - 1 + j), o32 j, swC k m (seam r a b) ((r a).length - 1 + j))) fu (fun j hj => ?_) ?_ (lt_fu (by omega))
      · unfold lX0_joinRings_84
        dsimp only
        rw [if_neg (by rw [o_le (by omega) (by omega)]; omega), if_neg (by rw [show (30 : Int32) = o32 30 from rfl, o_le (by omega) (by omega)]; omega), o_add, at_c hb (gB _) (by omega) (by omega), Option.bind_some, if_pos (o_inb (by omega) (by omega)), o_tn (by omega), o_s, o_s, show (r b).idxOf a + 2 + j = (r b).idxOf a + (2 + j) from Nat.add_assoc _ _ _, ← seam_g2 hj, swC_s]
        rfl
      · unfold lX0_joinRings_84
        dsimp only
        rw [if_pos (by rw [o_le (by omega) (by omega)]; omega), sl]
    unfold lX0_joinRings_24
    dsimp only
    rw [if_pos (by rw [o_le (by omega) (by omega)]; omega), last]
    rfl
theorem placeOf_d {k : Nat} {m : Mem} {r : Nat → List Nat} {al : Nat → Bool} {b x : Nat} (h : CS k m r al) (hb : b < 16) (hx : x ≤ 16) : fX0_placeOf k (o32 b) (o32 x) m = some (if al b then plc (r b) x else -1) := by
  rw [placeOf_c hb hx (h.2 b hb)]
  cases al b <;> rfl
theorem stand_c {k : Nat} {m : Mem} {x a b : Nat} {l : List Nat} (hx : x < 16) (ha : a < 16) (hb : b < 16) (hm : b ∈ l) (h : cg k m x l) : ∃ m', fX0_standForBoth k (o32 x) (o32 a) (o32 b) m = some m' ∧ cg k m' x (stand l a b) ∧ offC k m m' x := by
  have l1 := h.1
  have hi := List.idxOf_lt_length_of_mem hm
  unfold fX0_standForBoth stand
  rw [placeOf_c hx (by omega) h, placeOf_c hx (by omega) h, Option.bind_some, Option.bind_some]
  by_cases e : a ∈ l
  · obtain ⟨m', e1, s1, o1⟩ := takeOut_c (x := b) hx (by omega) h
    rw [if_neg (fun z => (plc_neg (by omega)).mp z e), e1, if_pos e]
    exact ⟨m', rfl, s1, o1⟩
  · rw [if_pos ((plc_neg (by omega)).mpr e), if_neg (fun z => (plc_neg (by omega)).mp z hm), plc_in hm, if_neg (by rw [show (30 : Int32) = o32 30 from rfl, o_le (by omega) (by omega)]; omega), if_pos (o_inb hx (by omega)), if_pos (o_inb (by omega) (by omega)), o_tn (by omega), o_tn (by omega), if_neg e]
    refine ⟨_, rfl, ⟨by rw [List.length_set]; exact l1, ?_, fun y hy => ?_, fun i hi2 => ?_⟩, fun c j h1 h2 => mput_c _ _ _ h2 ▸ rfl⟩
    · rw [mput_c _ _ _ (cw_ne (by omega)), List.length_set]
      exact h.2.1
    · rcases List.mem_or_eq_of_mem_set hy with z | z
      · exact h.2.2.1 y z
      · omega
    · rw [List.length_set] at hi2
      rw [mput_get, List.getElem_set]
      by_cases e : l.idxOf b = i
      · rw [if_pos ⟨rfl, e.symm⟩, if_pos e]
      · rw [if_neg (fun z => e z.2.symm), if_neg e]
        exact h.2.2.2 i hi2
noncomputable def uniM (k : Nat) (m : Mem) (a b : Nat) (sw : List Nat) : Mem := mput (mput (mput (mput (mcpy m (cw k 25) (cw k (9 + a)) 0 0 sw.length) (cw k 7) a (o32 sw.length)) (cw k 3) a 6) (cw k 4) a (fJ9_min_7cf53 99999 (m (cw k 4) a + m (cw k 4) b))) (cw k 5) a (fJ9_min_7cf53 99999 (m (cw k 5) a + m (cw k 5) b))
theorem mcpy_get (m : Mem) (q e sp dp n c j : Nat) : mcpy m q e sp dp n c j = if c = e ∧ dp ≤ j ∧ j < dp + n then m q (sp + (j - dp)) else m c j := by
  unfold mcpy
  by_cases h1 : c = e
  · subst h1
    rw [show Nat.beq c c = true from Nat.beq_refl c, Bool.true_and]
    by_cases h2 : dp ≤ j
    · rw [show Nat.ble dp j = true from Nat.ble_eq_true_of_le h2, Bool.true_and]
      by_cases h3 : j < dp + n
      · rw [show Nat.blt j (dp + n) = true from Nat.ble_eq_true_of_le h3, if_pos ⟨rfl, h2, h3⟩]
        rfl
      · rw [show Nat.blt j (dp + n) = false from by
          cases hb : Nat.blt j (dp + n) with
          | false => rfl
          | true => exact absurd (Nat.le_of_ble_eq_true hb) h3, if_neg (fun z => h3 z.2.2)]
        rfl
    · rw [show Nat.ble dp j = false from by
          cases hb : Nat.ble dp j with
          | false => rfl
          | true => exact absurd (Nat.le_of_ble_eq_true hb) h2, if_neg (fun z => h2 z.2.1)]
      rfl
  · rw [beq_ne h1, if_neg (fun z => h1 z.1)]
    rfl
theorem uniM_CS {k : Nat} {m : Mem} {r : Nat → List Nat} {al : Nat → Bool} {a b : Nat} {sw : List Nat} (ha : a < 16) (ala : al a = true) (hs : CS k m r al) (h30 : sw.length ≤ 30) (h16 : ∀ x ∈ sw, x ≤ 16) (hj : ∀ i, i < sw.length → m (cw k 25) i = o32 (sw.getD i 0)) : CS k (uniM k m a b sw) (setR r a sw) al := by
  have A : offC k m (mput (mcpy m (cw k 25) (cw k (9 + a)) 0 0 sw.length) (cw k 7) a (o32 sw.length)) a := fun c j h1 h2 => by
    rw [mput_get, if_neg h1, mcpy_get, if_neg (fun z => h2 z.1)]
  have B : cg k (mput (mcpy m (cw k 25) (cw k (9 + a)) 0 0 sw.length) (cw k 7) a (o32 sw.length)) a sw := by
    refine ⟨h30, by rw [mput_at], h16, fun i hi => ?_⟩
    rw [mput_c _ _ _ (cw_ne (by omega)), mcpy_get, if_pos ⟨rfl, by omega, by omega⟩, show 0 + (i - 0) = i by omega, hj i hi, getD_g hi]
  refine CS_same (CS_set hs ala A B) (fun c j hc => ?_)
  unfold uniM
  have h3 : c ≠ cw k 3 ∧ c ≠ cw k 4 ∧ c ≠ cw k 5 := by
    rcases hc with hc | hc | ⟨x, hx, hc⟩
    · rw [hc.1]; exact ⟨cw_ne (by omega), cw_ne (by omega), cw_ne (by omega)⟩
    · rw [hc]; exact ⟨cw_ne (by omega), cw_ne (by omega), cw_ne (by omega)⟩
    · rw [hc]; exact ⟨cw_ne (by omega), cw_ne (by omega), cw_ne (by omega)⟩
  rw [mput_c _ _ _ h3.2.2, mput_c _ _ _ h3.2.1, mput_c _ _ _ h3.1]
