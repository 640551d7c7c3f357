/-! AROUND -/
theorem sum_cnt {n : Nat} (g : Nat → Nat) : ∀ (l : List Nat), (∀ x ∈ l, x < n) → (l.map g).sum = ((List.range n).map (fun x => l.count x * g x)).sum
  | [], _ => by
    have : ∀ n : Nat, ((List.range n).map (fun x => ([] : List Nat).count x * g x)).sum = 0 := fun n => by
      induction n with
      | zero => rfl
      | succ n ih => rw [List.range_succ, List.map_append, List.sum_append, ih]; simp
    rw [this]; rfl
  | y :: l, h => by
    have ih := sum_cnt g l (fun x hx => h x (List.mem_cons_of_mem _ hx))
    have := sum_upd (f := fun x => l.count x * g x) (g := fun x => (y :: l).count x * g x) (b := y) n (h y List.mem_cons_self) (fun x hx => by show (y :: l).count x * g x = _; rw [List.count_cons_of_ne (Ne.symm hx)])
    simp only [List.count_cons_self, Nat.add_mul, Nat.one_mul] at this
    rw [List.map_cons, List.sum_cons]
    omega
noncomputable def CN (l : List Nat) (j : Nat) : Nat := ((List.range j).map (fun b => if b ∈ l then 1 else 0)).sum
noncomputable def SN (r : Nat → List Nat) (l : List Nat) (j : Nat) : Nat := ((List.range j).map (fun b => if b ∈ l then (r b).length else 0)).sum
theorem CN_s (l : List Nat) (j : Nat) : CN l (j + 1) = CN l j + (if j ∈ l then 1 else 0) := by
  unfold CN
  rw [List.range_succ, List.map_append, List.sum_append]
  simp
theorem SN_s (r : Nat → List Nat) (l : List Nat) (j : Nat) : SN r l (j + 1) = SN r l j + (if j ∈ l then (r j).length else 0) := by
  unfold SN
  rw [List.range_succ, List.map_append, List.sum_append]
  simp
theorem cnt_01 {l : List Nat} {x : Nat} (h : l.count x ≤ 1) : l.count x = if x ∈ l then 1 else 0 := by
  by_cases e : x ∈ l
  · rw [if_pos e]
    have := List.count_pos_iff.mpr e
    omega
  · rw [if_neg e, List.count_eq_zero_of_not_mem e]
theorem CN_len {l : List Nat} (h : ∀ x ∈ l, x ≤ 16) (hc : ∀ x, x ≠ 16 → l.count x ≤ 1) : l.length = CN l 16 + l.count 16 := by
  rw [len_sum (n := 17) l (fun x hx => by have := h x hx; omega), List.range_succ, List.map_append, List.sum_append]
  simp only [List.map_cons, List.map_nil, List.sum_cons, List.sum_nil, Nat.add_zero]
  congr 1
  unfold CN
  congr 1
  refine List.map_congr_left fun x hx => ?_
  have := List.mem_range.mp hx
  exact cnt_01 (hc x (by omega))
noncomputable def glen (r : Nat → List Nat) (x : Nat) : Nat := if x = 16 then 0 else (r x).length
theorem SN_sum {r : Nat → List Nat} {l : List Nat} (h : ∀ x ∈ l, x ≤ 16) (hc : ∀ x, x ≠ 16 → l.count x ≤ 1) : (l.map (glen r)).sum = SN r l 16 := by
  rw [sum_cnt (n := 17) _ l (fun x hx => by have := h x hx; omega), List.range_succ, List.map_append, List.sum_append]
  simp only [List.map_cons, List.map_nil, List.sum_cons, List.sum_nil, Nat.add_zero]
  rw [show glen r 16 = 0 from rfl, Nat.mul_zero, Nat.add_zero]
  unfold SN
  congr 1
  refine List.map_congr_left fun x hx => ?_
  have := List.mem_range.mp hx
  rw [cnt_01 (hc x (by omega)), show glen r x = (r x).length from if_neg (by omega)]
  split
  · rw [Nat.one_mul]
  · rw [Nat.zero_mul]
theorem ring_le {r : Nat → List Nat} {al : Nat → Bool} {a : Nat} (hg : Gr r al) (ha : a < 16) (ala : al a = true) : (∀ x ∈ r a, x ≤ 16) ∧ ∀ x, x ≠ 16 → (r a).count x ≤ 1 := ⟨fun x hx => (hg.1 a ha ala x hx).1, hg.2.1 a ha ala⟩
theorem sidesBeside_c {m : Mem} {r : Nat → List Nat} {al : Nat → Bool} {a : Nat} (h : CS 0 m r al) (hg : Gr r al) (ha : a < 16) (ala : al a = true) : fX0_sidesBeside 0 (o32 a) m = some (o32 ((r a).map (glen r)).sum) := by
  have g := CS_g h ha ala
  have la := g.1
  unfold fX0_sidesBeside
  rw [sidesOf_c ha g, Option.bind_some]
  have key := lp_ix (body := lX0_sidesBeside_11 0 (o32 a) (o32 (r a).length) m) (fun i s => s.2 = o32 i ∧ s.1 = o32 (((r a).take i).map (glen r)).sum) (fun e => e = o32 ((r a).map (glen r)).sum) (r a).length 0 ((0 : Int32), (0 : Int32)) fu ⟨rfl, by simp; rfl⟩ (fun i s _ hi hI => ?_) (fun s hI => ?_) (lt_fu (by omega))
  · obtain ⟨e, e1, e2⟩ := key
    rw [e1, e2]
  · obtain ⟨i1, i2⟩ := hI
    have hi : i < (r a).length := by omega
    have px := CS_m (k := 0) (m := m) hg ha ala (List.getElem_mem hi)
    have tk := tk1 hi
    unfold lX0_sidesBeside_11
    rw [i1, i2, if_neg (by rw [o_le (by omega) (by omega)]; omega), at_ci ha g hi, Option.bind_some]
    generalize (r a)[i] = x at px tk
    have sd : fX0_sidesOf 0 (o32 x) m = some (o32 (glen r x)) := by
      by_cases e : x = 16
      · rw [e]
        exact sidesOf_16
      · have p2 := px.2 e
        rw [sidesOf_c p2.1 (CS_g h p2.1 p2.2.1), show glen r x = (r x).length from if_neg e]
    rw [sd, Option.bind_some, o_add, o_s]
    refine ⟨_, rfl, rfl, ?_⟩
    rw [tk, List.map_append, List.sum_append]
    simp
  · obtain ⟨i1, i2⟩ := hI
    rw [Nat.zero_add] at i1 i2
    rw [List.take_length] at i2
    unfold lX0_sidesBeside_11
    rw [i1, i2, if_pos (Int32.le_refl _)]
    exact ⟨_, rfl, rfl⟩
theorem ar_in {mr : Mem} {r : Nat → List Nat} {al : Nat → Bool} {a : Nat} (h : RS mr r al) (hg : Gr r al) (ha : a < 16) (x c s : Int32) : lp (lX9_around_34 x (o32 a) mr) fu (c, s, 0) = some (.inl (if al a = true ∧ o32 (r a).length = x then (c + o32 (CN (r a) 16), s + o32 (SN r (r a) 16), o32 (a + 1)) else (c, s, o32 (a + 1)))) := by
  have key := lp_ix (body := lX9_around_34 x (o32 a) mr) (fun j t => t.2.2 = o32 j ∧ (t.1, t.2.1) = if al a = true ∧ o32 (r a).length = x then (c + o32 (CN (r a) j), s + o32 (SN r (r a) j)) else (c, s)) (fun e => e = .inl (if al a = true ∧ o32 (r a).length = x then (c + o32 (CN (r a) 16), s + o32 (SN r (r a) 16), o32 (a + 1)) else (c, s, o32 (a + 1)))) 16 0 (c, s, 0) fu ⟨rfl, ?_⟩ (fun j t _ hi hI => ?_) (fun t hI => ?_) (lt_fu (by omega))
  · obtain ⟨e, e1, e2⟩ := key
    rw [e1, e2]
  · show (c, s) = if al a = true ∧ o32 (r a).length = x then (c + 0, s + 0) else (c, s)
    rw [Int32.add_zero, Int32.add_zero]
    split <;> rfl
  · obtain ⟨i1, i2⟩ := hI
    have hj : j < 16 := by omega
    unfold lX9_around_34
    rw [i1, if_neg (not_16 hj), is_s ha h, Option.bind_some, o_s]
    cases ala : al a with
    | false =>
      rw [ala, if_neg (fun z => absurd z.1 (by decide))] at i2
      rw [if_pos (show i01 false = 0 by decide)]
      refine ⟨_, rfl, rfl, ?_⟩
      rw [if_neg (fun z => absurd z.1 (by decide))]
      exact i2
    | true =>
      have Ra := (h a ha).2 ala
      rw [ala] at i2
      rw [if_neg (show ¬ i01 true = 0 by decide), sd_o ha, Ra.2.1, Option.bind_some]
      by_cases e : o32 (r a).length = x
      · rw [if_pos ⟨rfl, e⟩] at i2
        have j1 : t.1 = c + o32 (CN (r a) j) := congrArg Prod.fst i2
        have j2 : t.2.1 = s + o32 (SN r (r a) j) := congrArg Prod.snd i2
        have no : j ∉ r a → ∃ t', (some (.inl (t.1, t.2.1, o32 (j + 1))) : Option ((Int32 × Int32 × Int32) ⊕ ((Int32 × Int32 × Int32) ⊕ (Int32 × Mem)))) = some (.inl t') ∧ t'.2.2 = o32 (j + 1) ∧ (t'.1, t'.2.1) = if true = true ∧ o32 (r a).length = x then (c + o32 (CN (r a) (j + 1)), s + o32 (SN r (r a) (j + 1))) else (c, s) := fun hn => by
          refine ⟨_, rfl, rfl, ?_⟩
          rw [if_pos ⟨rfl, e⟩, CN_s, SN_s, if_neg hn, if_neg hn, Nat.add_zero, Nat.add_zero]
          exact i2
        rw [if_pos e]
        by_cases ja : j = a
        · rw [if_pos (by rw [ja])]
          exact no (fun z => ((CS_m (k := 0) (m := mr) hg ha ala z).2 (by omega)).2.2.1 ja)
        · have ne : ¬ o32 j = o32 a := fun z => ja ((o_eq (by omega) (by omega)).mp z)
          rw [if_neg ne, is_s hj h, Option.bind_some]
          cases alj : al j with
          | false =>
            rw [if_pos (show i01 false = 0 by decide)]
            refine no (fun z => ?_)
            have := ((CS_m (k := 0) (m := mr) hg ha ala z).2 (by omega)).2.1
            rw [alj] at this
            exact absurd this (by decide)
          | true =>
            rw [if_neg (show ¬ i01 true = 0 by decide), isWall_s ha (by omega) Ra, Option.bind_some]
            by_cases hm : j ∈ r a
            · rw [if_pos hm, if_neg one0, sd_o hj, ((h j hj).2 alj).2.1, Option.bind_some, j1, j2]
              refine ⟨_, rfl, rfl, ?_⟩
              rw [if_pos ⟨rfl, e⟩, CN_s, SN_s, if_pos hm, if_pos hm, show o32 (CN (r a) j + 1) = o32 (CN (r a) j) + o32 1 from (o_add _ _).symm, show o32 (SN r (r a) j + (r j).length) = o32 (SN r (r a) j) + o32 (r j).length from (o_add _ _).symm, ← Int32.add_assoc, ← Int32.add_assoc]
              rfl
            · rw [if_neg hm, if_pos rfl]
              exact no hm
      · rw [if_neg (fun z => e z.2)] at i2
        rw [if_neg e]
        refine ⟨_, rfl, rfl, ?_⟩
        rw [if_neg (fun z => e z.2)]
        exact i2
  · obtain ⟨i1, i2⟩ := hI
    rw [Nat.zero_add] at i1 i2
    unfold lX9_around_34
    rw [i1, if_pos (show (16 : Int32) ≤ o32 16 by decide), o_s]
    refine ⟨_, rfl, ?_⟩
    by_cases e : al a = true ∧ o32 (r a).length = x
    · rw [if_pos e] at i2 ⊢
      have q1 : t.1 = c + o32 (CN (r a) 16) := congrArg Prod.fst i2
      have q2 : t.2.1 = s + o32 (SN r (r a) 16) := congrArg Prod.snd i2
      rw [q1, q2]
    · rw [if_neg e] at i2 ⊢
      have q1 : t.1 = c := congrArg Prod.fst i2
      have q2 : t.2.1 = s := congrArg Prod.snd i2
      rw [q1, q2]
theorem around_o {mc mr : Mem} (h : RLx mc mr) (x : Int32) : Sm (fX8_around x mc) (fX9_around x mr) := by
  have hh := h
  obtain ⟨⟨r, al, f, q, w⟩, _⟩ := h
  have hg := WS_1 w
  unfold fX8_around fX9_around
  rw [wi_eq]
  by_cases z : fX9_within x 0 60 = 0
  · rw [if_pos z, if_pos z]
    exact err1 hh
  rw [if_neg z, if_neg z]
  apply Sm_of
  refine lp_two (bs := lX8_around_23 x mc) (bt := lX9_around_24 x mr) (fun i s t => s.2.2 = o32 i ∧ t = s) (fun e g => e.1 = g.1 ∧ RLx e.2 g.2) 16 0 (0, 0, 0) (0, 0, 0) fu fu ⟨rfl, rfl⟩ (fun i s t _ hi hJ => ?_) (fun s t hJ => ?_) (lt_fu (by omega)) (lt_fu (by omega))
  · obtain ⟨j1, rfl⟩ := hJ
    have hi : i < 16 := by omega
    have ai := ar_in (WS_3 w) hg hi x t.1 t.2.1
    unfold lX8_around_23 lX9_around_24
    rw [j1, if_neg (not_16 hi), if_neg (not_16 hi), ai, has_c (WS_4 w) hi, o_s]
    cases ala : al i with
    | false =>
      rw [if_pos (show i01 false = 0 by decide), if_neg (fun z => absurd z.1 (by decide))]
      exact ⟨_, _, rfl, rfl, rfl, rfl⟩
    | true =>
      rw [if_neg (show ¬ i01 true = 0 by decide), if_pos (o_inb hi (by omega)), sd_c w hi ala]
      by_cases e : o32 (r i).length = x
      · have rl := ring_le hg hi ala
        have c1 := CN_len rl.1 rl.2
        rw [if_pos e, if_pos (o_inb hi (by omega)), if_pos ⟨rfl, e⟩, glasses_c hi (CS_g (WS_4 w) hi ala), Option.bind_some, sidesBeside_c (WS_4 w) hg hi ala, Option.bind_some, SN_sum rl.1 rl.2]
        have gl := (CS_g (WS_4 w) hi ala).1
        rw [show o32 (r i).length - o32 ((r i).count 16) = o32 ((r i).length - (r i).count 16) from o_sub (by omega) (by omega), show (r i).length - (r i).count 16 = CN (r i) 16 by omega]
        exact ⟨_, _, rfl, rfl, rfl, rfl⟩
      · rw [if_neg e, if_neg (fun z => e z.2)]
        exact ⟨_, _, rfl, rfl, rfl, rfl⟩
  · obtain ⟨j1, rfl⟩ := hJ
    unfold lX8_around_23 lX9_around_24
    rw [j1, if_pos (show (16 : Int32) ≤ o32 (0 + 16) by decide), if_pos (show (16 : Int32) ≤ o32 (0 + 16) by decide)]
    by_cases c : t.1 = 0
    · rw [if_pos c, if_pos c]
      obtain ⟨v, m1, m2, e1, e2, e3⟩ := err2 hh
      cases a1 : fX8_no 2 mc with
      | none => rw [a1] at e1; cases e1
      | some p =>
        cases a2 : fX9_finding (-1000002) mr with
        | none => rw [a2] at e2; cases e2
        | some p2 =>
          rw [a1, Option.bind_some] at e1
          rw [a2, Option.bind_some] at e2
          have f1 := Prod.mk.inj (Option.some.inj e1)
          have f2 := Prod.mk.inj (Option.some.inj e2)
          exact ⟨_, _, rfl, rfl, f1.1.trans f2.1.symm, by show RLx p.2 p2.2; rw [f1.2, f2.2]; exact e3⟩
    · rw [if_neg c, if_neg c, if_pos c, if_pos c]
      exact ⟨_, _, rfl, rfl, rfl, hh⟩
