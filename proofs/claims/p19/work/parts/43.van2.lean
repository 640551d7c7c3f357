/-! A VANISHING keeps the graph and the faces -/
theorem sum_le {f g : Nat → Nat} : ∀ (n : Nat), (∀ x, x < n → f x ≤ g x) → ((List.range n).map f).sum ≤ ((List.range n).map g).sum
  | 0, _ => Nat.le_refl _
  | n + 1, h => by
    rw [List.range_succ, List.map_append, List.map_append, List.sum_append, List.sum_append]
    have := sum_le (f := f) (g := g) n (fun x hx => h x (by omega))
    have h1 := h n (by omega)
    show _ + [f n].sum ≤ _ + [g n].sum
    simp only [List.sum_cons, List.sum_nil]
    omega
theorem outR_mem {r : Nat → List Nat} {al : Nat → Bool} {a b y : Nat} (ha : a < 16) (hg : Gr r al) (hb : b < 16) (alb : al b = true) : y ∈ outR r a (r a) b ↔ y ∈ r b ∧ y ≠ a := by
  unfold outR
  by_cases h : b ∈ r a ∧ b ≠ 16
  · rw [if_pos h, rmv_mem (hg.2.1 b hb alb a (by omega))]
  · rw [if_neg h]
    refine ⟨fun z => ⟨z, fun e => h ⟨?_, by omega⟩⟩, fun z => z.1⟩
    rw [e] at z
    exact ((hg.1 b hb alb a z).2 (by omega)).2.2
theorem van_Gr {r : Nat → List Nat} {al : Nat → Bool} {a : Nat} (ha : a < 16) (hg : Gr r al) : Gr (outR r a (r a)) (offB al a) := by
  have al1 : ∀ b, offB al a b = true → al b = true ∧ b ≠ a := fun b h => by
    unfold offB at h
    by_cases e : b = a
    · rw [if_pos e] at h; cases h
    · rw [if_neg e] at h; exact ⟨h, e⟩
  refine ⟨fun b hb hab x hx => ?_, fun b hb hab x hx => ?_, ?_⟩
  · obtain ⟨h1, h2⟩ := al1 b hab
    have hm := (outR_mem ha hg hb h1).mp hx
    have p := hg.1 b hb h1 x hm.1
    refine ⟨p.1, fun h16 => ?_⟩
    have p2 := p.2 h16
    refine ⟨?_, p2.2.1, (outR_mem ha hg (by omega) p2.1).mpr ⟨p2.2.2, h2⟩⟩
    unfold offB
    rw [if_neg hm.2]
    exact p2.1
  · obtain ⟨h1, h2⟩ := al1 b hab
    have := hg.2.1 b hb h1 x hx
    unfold outR
    split
    · rw [rmv_count]; omega
    · exact this
  · refine Nat.le_trans ?_ hg.2.2
    refine sum_le 16 (fun x hx => ?_)
    unfold offB outR
    by_cases e : x = a
    · rw [if_pos e]; exact Nat.zero_le _
    · rw [if_neg e]
      by_cases h : al x = true
      · rw [if_pos h, if_pos h]
        split
        · have : (rmv (r x) a).length ≤ (r x).length := by
            unfold rmv
            rw [List.length_eraseIdx]
            split <;> omega
          have := rmv_count (r x) a 16
          unfold wt
          omega
        · exact Nat.le_refl _
      · rw [if_neg h]; exact Nat.zero_le _
theorem three {l : List Nat} {b : Nat} (hl : l.length = 3) (hb : b ∈ l) (cb : l.count b ≤ 1) (cx : l.count (nxt l b) ≤ 1) : nxt l (nxt l b) = prv l b := by
  match l, hl with
  | [p, q, s], _ =>
    have np : nxt [p, q, s] p = q := nxt_sp (A := []) (B := [q, s]) (by simp)
    have pp : prv [p, q, s] p = s := prv_sp (A := []) (B := [q, s]) (by simp)
    have nq : p ≠ q → nxt [p, q, s] q = s := fun h => nxt_sp (A := [p]) (B := [s]) (by simp [h.symm])
    have pq : p ≠ q → prv [p, q, s] q = p := fun h => prv_sp (A := [p]) (B := [s]) (by simp [h.symm])
    have ns : p ≠ s → q ≠ s → nxt [p, q, s] s = p := fun h h2 => nxt_sp (A := [p, q]) (B := []) (by simp [h.symm, h2.symm])
    have ps : p ≠ s → q ≠ s → prv [p, q, s] s = q := fun h h2 => prv_sp (A := [p, q]) (B := []) (by simp [h.symm, h2.symm])
    simp only [List.mem_cons, List.not_mem_nil, or_false] at hb
    by_cases e1 : p = b
    · subst e1
      rw [np] at cx ⊢
      have e2 : p ≠ q := fun z => by subst z; simp at cb
      rw [nq e2, pp]
    · by_cases e2 : q = b
      · subst e2
        rw [nq e1] at cx ⊢
        have e3 : q ≠ s := fun z => by subst z; simp [List.count_cons] at cb; omega
        have e4 : p ≠ s := fun z => by subst z; simp [List.count_cons] at cx
        rw [ns e4 e3, pq e1]
      · have e3 : s = b := by
          rcases hb with h | h | h
          · exact absurd h.symm e1
          · exact absurd h.symm e2
          · exact h.symm
        subst e3
        rw [ns e1 e2, np, ps e1 e2]
theorem van_FC {r : Nat → List Nat} {al : Nat → Bool} {a : Nat} (ha : a < 16) (ala : al a = true) (hg : Gr r al) (hf : FC r al) (h3 : (r a).length = 3) : FC (outR r a (r a)) (offB al a) := by
  intro b hb hab x hx hx16
  have alb : al b = true ∧ b ≠ a := by
    unfold offB at hab
    by_cases e : b = a
    · rw [if_pos e] at hab; cases hab
    · rw [if_neg e] at hab; exact ⟨hab, e⟩
  have cnt := hg.2.1
  obtain ⟨m1, m2⟩ := (outR_mem ha hg hb alb.1).mp hx
  have p := (hg.1 b hb alb.1 x m1).2 hx16
  have hx' : x < 16 := by have := (hg.1 b hb alb.1 x m1).1; omega
  have N : nxt (outR r a (r a) b) x = if nxt (r b) x = a then nxt (r b) a else nxt (r b) x := by
    unfold outR
    by_cases h : b ∈ r a ∧ b ≠ 16
    · have hab2 : a ∈ r b := ((hg.1 a ha ala b h.1).2 h.2).2.2
      rw [if_pos h, nxt_rmv hab2 m1 (Ne.symm m2) (cnt b hb alb.1 a (by omega)) (cnt b hb alb.1 x hx16)]
    · have hna : a ∉ r b := fun z => h ⟨((hg.1 b hb alb.1 a z).2 (by omega)).2.2, by omega⟩
      rw [if_neg h, if_neg (fun z => hna (by rw [← z]; exact nxt_mem m1))]
  have P : prv (outR r a (r a) x) b = if prv (r x) b = a then prv (r x) a else prv (r x) b := by
    unfold outR
    by_cases h : x ∈ r a ∧ x ≠ 16
    · have hab2 : a ∈ r x := ((hg.1 a ha ala x h.1).2 h.2).2.2
      rw [if_pos h, prv_rmv hab2 p.2.2 (Ne.symm alb.2) (cnt x hx' p.1 a (by omega)) (cnt x hx' p.1 b (by omega))]
    · have hna : a ∉ r x := fun z => h ⟨((hg.1 x hx' p.1 a z).2 (by omega)).2.2, hx16⟩
      rw [if_neg h, if_neg (fun z => hna (by rw [← z]; exact prv_mem p.2.2))]
  have e := hf b hb alb.1 x m1 hx16
  rw [N, P, ← e]
  by_cases t : nxt (r b) x = a
  · rw [if_pos t, if_pos t]
    have hab2 : a ∈ r b := by rw [← t]; exact nxt_mem m1
    have hba : b ∈ r a := ((hg.1 b hb alb.1 a hab2).2 (by omega)).2.2
    have hax : a ∈ r x := by rw [e] at t; rw [← t]; exact prv_mem p.2.2
    have hxa : x ∈ r a := ((hg.1 x hx' p.1 a hax).2 (by omega)).2.2
    have q1 : prv (r b) a = x := (nxt_prv hab2 m1 (cnt b hb alb.1 a (by omega)) (cnt b hb alb.1 x hx16)).mp t
    have q2 : nxt (r a) b = x := by rw [hf a ha ala b hba (by omega)]; exact q1
    rw [hf b hb alb.1 a hab2 (by omega), ← hf a ha ala x hxa hx16, ← q2]
    exact (three h3 hba (cnt a ha ala b (by omega)) (by rw [q2]; exact cnt a ha ala x hx16)).symm
  · rw [if_neg t, if_neg t]
/-- that a wall bursts -/
noncomputable def okB (r : Nat → List Nat) (b c d x : Nat) : Bool := decide (x = c) || decide (x = d) || !decide (x ∈ r b)
noncomputable def mayBur (r : Nat → List Nat) (a b : Nat) : Bool := (!decide (prv (r a) b = nxt (r a) b) && (okS r (prv (r a) b) && okS r (nxt (r a) b))) && (r a).all (okB r b (prv (r a) b) (nxt (r a) b))
theorem canBurst_lp {m : Mem} {r : Nat → List Nat} {al : Nat → Bool} {a b c d : Nat} (ha : a < 16) (hb : b < 16) (hs : RS m r al) (ala : al a = true) (alb : al b = true) (hc : c ≤ 16) (hd : d ≤ 16) (v0 : Bool) : lp (lX9_canBurst_63 (o32 a) (o32 b) (o32 c) (o32 d) m) fu (i01 v0, 0) = some (i01 (v0 && (r a).all (okB r b c d))) := by
  have sa := (hs a ha).2 ala
  have sb := (hs b hb).2 alb
  obtain ⟨h1, h2, h3, h4⟩ := sa
  have st : (i01 v0, (0 : Int32)) = (fun i => (i01 (v0 && ((r a).take i).all (okB r b c d)), o32 i)) 0 := by
    show _ = (i01 (v0 && true), o32 0)
    rw [Bool.and_true]
    rfl
  rw [st]
  refine lp_fwd (body := lX9_canBurst_63 (o32 a) (o32 b) (o32 c) (o32 d) m) (r a).length (fun i => (i01 (v0 && ((r a).take i).all (okB r b c d)), o32 i)) fu (fun i hi => ?_) ?_ (lt_fu (by omega))
  · unfold lX9_canBurst_63
    dsimp only
    rw [sd_o ha, h2, Option.bind_some, if_neg (by rw [o_le (by omega) (by omega)]; omega), rg_o ha (by omega), h4 i hi, Option.bind_some, o_s, tk1 hi, List.all_append]
    have px := h3 _ (List.getElem_mem hi)
    generalize (r a)[i] = x at px
    have e1 : [x].all (okB r b c d) = okB r b c d x := by simp
    rw [e1, ← Bool.and_assoc]
    cases hv : (v0 && ((r a).take i).all (okB r b c d)) with
    | false => rw [if_pos (by decide)]; rfl
    | true =>
      rw [if_neg (by decide)]
      by_cases q1 : x = c
      · rw [if_pos (by rw [q1])]
        simp [okB, q1, i01]
      · rw [if_neg (by rw [o_eq (by omega) (by omega)]; exact q1)]
        by_cases q2 : x = d
        · rw [if_pos (by rw [q2])]
          simp [okB, q2, i01]
        · rw [if_neg (by rw [o_eq (by omega) (by omega)]; exact q2), isWall_s hb px sb, Option.bind_some]
          by_cases q3 : x ∈ r b
          · rw [if_pos q3, if_neg (by decide)]
            simp [okB, q1, q2, q3, i01]
          · rw [if_neg q3, if_pos rfl]
            simp [okB, q3, i01]
  · unfold lX9_canBurst_63
    dsimp only
    rw [sd_o ha, h2, Option.bind_some, if_pos (by rw [o_le (by omega) (by omega)]; omega), if_pos (i01_z _), List.take_length]
theorem canBurst_s {m : Mem} {r : Nat → List Nat} {al : Nat → Bool} {a b : Nat} (ha : a < 16) (hb : b < 16) (hs : RS m r al) (hg : Gr r al) (ala : al a = true) (alb : al b = true) (hab : b ∈ r a) : fX9_canBurst (o32 a) (o32 b) m = some (i01 (mayBur r a b)) := by
  have sa := (hs a ha).2 ala
  have pc := hg.1 a ha ala _ (prv_mem hab)
  have pd := hg.1 a ha ala _ (nxt_mem hab)
  unfold fX9_canBurst mayBur bX9_canBurst_36
  rw [ahead_s ha (by omega) sa hab, Option.bind_some, behind_s ha (by omega) sa hab, Option.bind_some]
  generalize prv (r a) b = c at *
  generalize nxt (r a) b = d at *
  have L := fun v0 => canBurst_lp (m := m) (r := r) (al := al) (c := c) (d := d) ha hb hs ala alb pc.1 pd.1 v0
  have L0 : lp (lX9_canBurst_63 (o32 a) (o32 b) (o32 c) (o32 d) m) fu (0, 0) = some (i01 false) := L false
  have L1 : lp (lX9_canBurst_63 (o32 a) (o32 b) (o32 c) (o32 d) m) fu (1, 0) = some (i01 ((r a).all (okB r b c d))) := by
    have := L true
    rw [Bool.true_and] at this
    exact this
  have D : ∀ z, (z ≤ 16 ∧ (z ≠ 16 → al z = true ∧ z ≠ a ∧ a ∈ r z)) → z ≠ 16 → fX9_sidesOf (o32 z) m = some (o32 (r z).length) ∧ (r z).length ≤ 44 := fun z p h => by
    have hz : z < 16 := by have := p.1; omega
    have sz := (hs z hz).2 (p.2 h).1
    exact ⟨by rw [sd_o hz, sz.2.1], sz.1⟩
  rw [L0, L1]
  by_cases q1 : c = d
  · rw [if_pos (by rw [q1])]
    simp [q1]
  · rw [if_neg (by rw [o_eq (by have := pc.1; omega) (by have := pd.1; omega)]; exact q1)]
    have B : (if o32 d = 16 then some (i01 ((r a).all (okB r b c d))) else (fX9_sidesOf (o32 d) m).bind fun q7 => if q7 ≤ 3 then some (i01 false) else some (i01 ((r a).all (okB r b c d)))) = some (i01 (okS r d && (r a).all (okB r b c d))) := by
      by_cases q2 : d = 16
      · rw [if_pos ((e16 pd.1).mpr q2)]
        simp [okS, q2]
      · obtain ⟨s1, s2⟩ := D d pd q2
        rw [if_neg (fun z => q2 ((e16 pd.1).mp z)), s1, Option.bind_some]
        by_cases q3 : 4 ≤ (r d).length
        · rw [if_neg (by rw [show (3 : Int32) = o32 3 from rfl, o_le (by omega) (by omega)]; omega)]
          simp [okS, q3]
        · rw [if_pos (by rw [show (3 : Int32) = o32 3 from rfl, o_le (by omega) (by omega)]; omega)]
          simp [okS, q3, q2]
    rw [B]
    by_cases q2 : c = 16
    · rw [if_pos ((e16 pc.1).mpr q2)]
      have : okS r c = true := by simp [okS, q2]
      rw [this]
      simp [q1]
    · obtain ⟨s1, s2⟩ := D c pc q2
      rw [if_neg (fun z => q2 ((e16 pc.1).mp z)), s1, Option.bind_some]
      by_cases q3 : 4 ≤ (r c).length
      · rw [if_neg (by rw [show (3 : Int32) = o32 3 from rfl, o_le (by omega) (by omega)]; omega)]
        have : okS r c = true := by simp [okS, q3]
        rw [this]
        simp [q1]
      · rw [if_pos (by rw [show (3 : Int32) = o32 3 from rfl, o_le (by omega) (by omega)]; omega)]
        have : okS r c = false := by simp [okS, q3, q2]
        rw [this]
        simp
