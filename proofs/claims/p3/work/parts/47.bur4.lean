theorem bur_core {r : Nat → List Nat} {al : Nat → Bool} {a b : Nat} (ha : a < 16) (hb : b < 16) (hg : Gr r al) (hf : FC r al) (ala : al a = true) (alb : al b = true) (hab : b ∈ r a) (hcd : prv (r a) b ≠ nxt (r a) b) (hc : ∀ x, x ∈ r a → x ∈ r b → x = prv (r a) b ∨ x = nxt (r a) b) :
    (∀ y, y ∈ seam r a b ↔ (y ∈ r a ∧ y ≠ b) ∨ (y ∈ r b ∧ y ≠ a)) ∧ (∀ y, y ≠ 16 → (seam r a b).count y ≤ 1) ∧
      (∀ y, y ≠ 16 → y ∈ r a → y ≠ b → y ≠ prv (r a) b → nxt (seam r a b) y = nxt (r a) y) ∧
      (∀ y, y ≠ 16 → y ∈ r a → y ≠ b → y ≠ nxt (r a) b → prv (seam r a b) y = prv (r a) y) ∧
      (∀ y, y ≠ 16 → y ∈ r b → y ≠ a → y ≠ nxt (r a) b → nxt (seam r a b) y = nxt (r b) y) ∧
      (∀ y, y ≠ 16 → y ∈ r b → y ≠ a → y ≠ prv (r a) b → prv (seam r a b) y = prv (r b) y) := by
  have cnt := hg.2.1
  obtain ⟨A, B, cA, cB, es, nA, nB, _, _⟩ := faces_ab ha hb hg hf ala alb hab hcd
  have c1 := fun y (h : y ≠ 16) => cnt a ha ala y h
  have c2 := fun y (h : y ≠ 16) => cnt b hb alb y h
  generalize prv (r a) b = c at *
  generalize nxt (r a) b = d at *
  rw [es]
  have mA : ∀ y, y ∈ r a ↔ y = b ∨ y = d ∨ y ∈ A ∨ y = c := fun y => by
    rw [← List.count_pos_iff, cA y, List.count_pos_iff]; simp
  have mB : ∀ y, y ∈ r b ↔ y = a ∨ y = c ∨ y ∈ B ∨ y = d := fun y => by
    rw [← List.count_pos_iff, cB y, List.count_pos_iff]; simp
  have k1 : ∀ y, y ≠ 16 → A.count y + (if c = y then 1 else 0) + (if d = y then 1 else 0) + (if b = y then 1 else 0) ≤ 1 := fun y hy => by
    have := c1 y hy
    rw [cA y] at this
    simp only [List.count_cons, List.count_append, List.count_nil, beq_iff_eq] at this
    omega
  have k2 : ∀ y, y ≠ 16 → B.count y + (if d = y then 1 else 0) + (if c = y then 1 else 0) + (if a = y then 1 else 0) ≤ 1 := fun y hy => by
    have := c2 y hy
    rw [cB y] at this
    simp only [List.count_cons, List.count_append, List.count_nil, beq_iff_eq] at this
    omega
  have kb := k1 b (by omega)
  have ka := k2 a (by omega)
  rw [if_pos rfl] at kb ka
  have db : d ≠ b := fun e => by rw [if_pos e] at kb; omega
  have cb : c ≠ b := fun e => by rw [if_pos e] at kb; omega
  have da : d ≠ a := fun e => by rw [if_pos e] at ka; omega
  have ca : c ≠ a := fun e => by rw [if_pos e] at ka; omega
  have bA : b ∉ A := fun w => by have := List.count_pos_iff.mpr w; omega
  have aB : a ∉ B := fun w => by have := List.count_pos_iff.mpr w; omega
  have K : ∀ y, y ≠ 16 → (d :: (A ++ c :: B)).count y ≤ 1 := fun y hy => by
    have h1 := k1 y hy
    have h2 := k2 y hy
    simp only [List.count_cons, List.count_append, beq_iff_eq]
    by_cases w1 : y ∈ A
    · by_cases w2 : y ∈ B
      · have p1 := List.count_pos_iff.mpr w1
        rcases hc y ((mA y).mpr (by simp [w1])) ((mB y).mpr (by simp [w2])) with e | e
        · rw [if_pos e.symm] at h1; omega
        · rw [if_pos e.symm] at h1; omega
      · have := List.count_eq_zero_of_not_mem w2; omega
    · have := List.count_eq_zero_of_not_mem w1; omega
  have L := fun y hy => seam_l (A := A) (B := B) (a := a) (b := b) (c := c) (d := d) (y := y) (by rw [← cA y]; exact c1 y hy) (by rw [← cB y]; exact c2 y hy) (K y hy)
  refine ⟨fun y => ?_, K, fun y h16 hy hyb hyc => ?_, fun y h16 hy hyb hyd => ?_, fun y h16 hy hya hyd => ?_, fun y h16 hy hya hyc => ?_⟩
  · rw [mA, mB]
    simp only [List.mem_cons, List.mem_append]
    constructor
    · rintro (h | h | h | h)
      · exact .inl ⟨.inr (.inl h), by rw [h]; exact db⟩
      · exact .inl ⟨.inr (.inr (.inl h)), fun e => bA (by rw [← e]; exact h)⟩
      · exact .inl ⟨.inr (.inr (.inr h)), by rw [h]; exact cb⟩
      · exact .inr ⟨.inr (.inr (.inl h)), fun e => aB (by rw [← e]; exact h)⟩
    · rintro (⟨h | h | h | h, n⟩ | ⟨h | h | h | h, n⟩)
      · exact absurd h n
      · exact .inl h
      · exact .inr (.inl h)
      · exact .inr (.inr (.inl h))
      · exact absurd h n
      · exact .inr (.inr (.inl h))
      · exact .inr (.inr (.inr h))
      · exact .inl h
  · rw [(nA y hy h16).1]
    rcases (mA y).mp hy with h | h | h | h
    · exact absurd h hyb
    · exact ((L y h16).1 h).1
    · exact ((L y h16).2.1 h).1
    · exact absurd h hyc
  · rw [(nA y hy h16).2]
    rcases (mA y).mp hy with h | h | h | h
    · exact absurd h hyb
    · exact absurd h hyd
    · exact ((L y h16).2.1 h).2
    · exact ((L y h16).2.2.1 h).2
  · rw [(nB y hy h16).1]
    rcases (mB y).mp hy with h | h | h | h
    · exact absurd h hya
    · exact ((L y h16).2.2.1 h).1
    · exact ((L y h16).2.2.2 h).1
    · exact absurd h hyd
  · rw [(nB y hy h16).2]
    rcases (mB y).mp hy with h | h | h | h
    · exact absurd h hya
    · exact absurd h hyc
    · exact ((L y h16).2.2.2 h).2
    · exact ((L y h16).1 h).2
/-- the rings behind a bursting -/
def burR (r : Nat → List Nat) (al : Nat → Bool) (a b : Nat) : Nat → List Nat := setR (burX r al a b 16) a (seam r a b)
theorem burR_at {r : Nat → List Nat} {al : Nat → Bool} {a b x : Nat} (hx : x < 16) (hxa : x ≠ a) (hxb : x ≠ b) (hal : al x = true) : burR r al a b x = if b ∈ r x then stand (r x) a b else r x := by
  unfold burR
  rw [setR_ne _ _ hxa]
  unfold burX
  by_cases h : b ∈ r x
  · rw [if_pos ⟨hx, hxa, hxb, hal, h⟩, if_pos h]
  · rw [if_neg (fun z => h z.2.2.2.2), if_neg h]
theorem sg_mem {l : List Nat} {a b : Nat} (hb : b ∈ l) (y : Nat) : y ∈ l.map (sg a b) ↔ (y ∈ l ∧ y ≠ b) ∨ y = a := by
  rw [List.mem_map]
  constructor
  · rintro ⟨z, h1, h2⟩
    by_cases e : z = b
    · rw [e, sg_b] at h2; exact .inr h2.symm
    · rw [sg_n e] at h2; exact .inl (by rw [← h2]; exact ⟨h1, e⟩)
  · rintro (⟨h1, h2⟩ | h)
    · exact ⟨y, h1, sg_n h2⟩
    · exact ⟨b, hb, by rw [h, sg_b]⟩
theorem burR_mem {r : Nat → List Nat} {al : Nat → Bool} {a b x : Nat} (hg : Gr r al) (hb : b < 16) (hab : a ≠ b) (hx : x < 16) (hxa : x ≠ a) (hxb : x ≠ b) (hal : al x = true) (y : Nat) : y ∈ burR r al a b x ↔ y ≠ b ∧ (y ∈ r x ∨ (y = a ∧ b ∈ r x)) := by
  rw [burR_at hx hxa hxb hal]
  by_cases h : b ∈ r x
  · rw [if_pos h]
    by_cases ha : a ∈ r x
    · unfold stand
      rw [if_pos ha, rmv_mem (hg.2.1 x hx hal b (by omega))]
      constructor
      · exact fun w => ⟨w.2, .inl w.1⟩
      · rintro ⟨h1, h2 | ⟨e, _⟩⟩
        · exact ⟨h2, h1⟩
        · exact ⟨by rw [e]; exact ha, h1⟩
    · rw [stand_map ha h (hg.2.1 x hx hal b (by omega)), sg_mem h]
      constructor
      · rintro (⟨h1, h2⟩ | e)
        · exact ⟨h2, .inl h1⟩
        · exact ⟨by rw [e]; exact hab, .inr ⟨e, h⟩⟩
      · rintro ⟨h1, h2 | ⟨e, _⟩⟩
        · exact .inl ⟨h2, h1⟩
        · exact .inr e
  · rw [if_neg h]
    constructor
    · exact fun w => ⟨fun e => h (by rw [← e]; exact w), .inl w⟩
    · rintro ⟨_, w | ⟨_, w⟩⟩
      · exact w
      · exact absurd w h
theorem offB_t {al : Nat → Bool} {a b : Nat} : offB al a b = true ↔ al b = true ∧ b ≠ a := by
  unfold offB
  by_cases e : b = a
  · rw [if_pos e]; exact ⟨fun h => (by cases h), fun h => absurd e h.2⟩
  · rw [if_neg e]; exact ⟨fun h => ⟨h, e⟩, fun h => h.1⟩
theorem stand_len (l : List Nat) (a b : Nat) : (stand l a b).length ≤ l.length := by
  unfold stand
  split
  · unfold rmv
    rw [List.length_eraseIdx]
    split <;> omega
  · rw [List.length_set]; exact Nat.le_refl _
theorem stand_wt (l : List Nat) (a b : Nat) (h16 : a ≠ 16) : wt (stand l a b) ≤ wt l := by
  have h := stand_len l a b
  have c : (stand l a b).count 16 ≤ l.count 16 := by
    unfold stand
    split
    · rw [rmv_count]; omega
    · by_cases hb : l.idxOf b < l.length
      · rw [List.count_set (by exact hb), beq_false_of_ne h16]
        simp
      · rw [List.set_eq_of_length_le (by omega)]
        exact Nat.le_refl _
  unfold wt
  omega
theorem sg_count {l : List Nat} {a b : Nat} (ha : a ∉ l) (y : Nat) (hc : l.count y ≤ 1) (cb : l.count b ≤ 1) : (l.map (sg a b)).count y ≤ 1 := by
  by_cases hb : b ∈ l
  · obtain ⟨P, Q, e, h1, h2⟩ := split1 hb cb
    have m : ∀ X : List Nat, b ∉ X → X.map (sg a b) = X := fun X h => by
      have : X.map (sg a b) = X.map id := List.map_congr_left (fun z hz => sg_n (fun e => h (by rw [← e]; exact hz)))
      rw [this, List.map_id]
    rw [e, List.map_append, List.map_cons, m P h1, m Q h2, sg_b]
    rw [e] at hc ha
    simp only [List.count_append, List.count_cons, beq_iff_eq] at hc ⊢
    by_cases ey : a = y
    · have z1 : y ∉ P := fun w => ha (by rw [ey]; simp [w])
      have z2 : y ∉ Q := fun w => ha (by rw [ey]; simp [w])
      rw [List.count_eq_zero_of_not_mem z1, List.count_eq_zero_of_not_mem z2]
      split <;> omega
    · rw [if_neg ey]
      omega
  · have : l.map (sg a b) = l := by
      have : l.map (sg a b) = l.map id := List.map_congr_left (fun z hz => sg_n (fun e => hb (by rw [← e]; exact hz)))
      rw [this, List.map_id]
    rw [this]; exact hc
theorem burst_Gr {r : Nat → List Nat} {al : Nat → Bool} {a b : Nat} (ha : a < 16) (hb : b < 16) (hne : a ≠ b) (hg : Gr r al) (hf : FC r al) (ala : al a = true) (alb : al b = true) (hab : b ∈ r a) (hcd : prv (r a) b ≠ nxt (r a) b) (hc : ∀ x, x ∈ r a → x ∈ r b → x = prv (r a) b ∨ x = nxt (r a) b) : Gr (burR r al a b) (offB al b) := by
  obtain ⟨C1, C2, _⟩ := bur_core ha hb hg hf ala alb hab hcd hc
  have ea : burR r al a b a = seam r a b := setR_at _ _ _
  have M := fun x (hx : x < 16) (hxa : x ≠ a) (hxb : x ≠ b) (hal : al x = true) => burR_mem (a := a) hg hb hne hx hxa hxb hal
  refine ⟨fun x hx hxo y hy => ?_, fun x hx hxo y hy => ?_, ?_⟩
  · obtain ⟨hal, hxb⟩ := offB_t.mp hxo
    by_cases hxa : x = a
    · subst hxa
      rw [ea] at hy
      rcases (C1 y).mp hy with ⟨h1, h2⟩ | ⟨h1, h2⟩
      · have p := hg.1 x hx hal y h1
        refine ⟨p.1, fun h16 => ?_⟩
        have q := p.2 h16
        exact ⟨offB_t.mpr ⟨q.1, h2⟩, q.2.1, (M y (by omega) q.2.1 h2 q.1 x).mpr ⟨hne, .inl q.2.2⟩⟩
      · have p := hg.1 b hb alb y h1
        refine ⟨p.1, fun h16 => ?_⟩
        have q := p.2 h16
        exact ⟨offB_t.mpr ⟨q.1, q.2.1⟩, h2, (M y (by omega) h2 q.2.1 q.1 x).mpr ⟨hne, .inr ⟨rfl, q.2.2⟩⟩⟩
    · obtain ⟨h1, h2⟩ := (M x hx hxa hxb hal y).mp hy
      by_cases hya : y = a
      · subst hya
        refine ⟨by omega, fun _ => ⟨offB_t.mpr ⟨ala, hne⟩, Ne.symm hxa, ?_⟩⟩
        rw [ea]
        refine (C1 x).mpr ?_
        rcases h2 with h2 | ⟨_, h2⟩
        · exact .inl ⟨((hg.1 x hx hal y h2).2 (by omega)).2.2, hxb⟩
        · exact .inr ⟨((hg.1 x hx hal b h2).2 (by omega)).2.2, hxa⟩
      · have h3 : y ∈ r x := by
          rcases h2 with h2 | ⟨h2, _⟩
          · exact h2
          · exact absurd h2 hya
        have p := hg.1 x hx hal y h3
        refine ⟨p.1, fun h16 => ?_⟩
        have q := p.2 h16
        exact ⟨offB_t.mpr ⟨q.1, h1⟩, q.2.1, (M y (by omega) hya h1 q.1 x).mpr ⟨hxb, .inl q.2.2⟩⟩
  · obtain ⟨hal, hxb⟩ := offB_t.mp hxo
    by_cases hxa : x = a
    · rw [hxa, ea]; exact C2 y hy
    · rw [burR_at hx hxa hxb hal]
      have c0 := hg.2.1 x hx hal y hy
      split
      · next h =>
        by_cases hax : a ∈ r x
        · unfold stand
          rw [if_pos hax, rmv_count]; omega
        · rw [stand_map hax h (hg.2.1 x hx hal b (by omega))]
          exact sg_count hax y c0 (hg.2.1 x hx hal b (by omega))
      · exact c0
  · obtain ⟨A, B, cA, cB, es, _, _, la, lb⟩ := faces_ab ha hb hg hf ala alb hab hcd
    have u1 := Ur_set (r := r) (l := seam r a b) ha ala
    have u2 := Ur_set (r := setR r a (seam r a b)) (l := []) hb alb
    rw [setR_ne _ _ hne.symm] at u2
    have l0 : wt [] = 0 := rfl
    have ls := seam_len r a b
    have ws : wt (seam r a b) ≤ wt (r a) + wt (r b) := by
      have k1 := cA 16
      have k2 := cB 16
      have k3 : (seam r a b).count 16 ≤ (r a).count 16 + (r b).count 16 := by
        rw [k1, k2, es]
        simp only [List.count_cons, List.count_append, List.count_nil, beq_iff_eq]
        omega
      unfold wt
      omega
    have u0 := hg.2.2
    have : Ur (burR r al a b) (offB al b) ≤ Ur (setR (setR r a (seam r a b)) b []) al := by
      refine sum_le 16 (fun x hx => ?_)
      by_cases hxb : x = b
      · have : offB al b x = false := by unfold offB; rw [if_pos hxb]
        rw [this]; exact Nat.zero_le _
      · by_cases hal : al x = true
        · rw [offB_t.mpr ⟨hal, hxb⟩, hal, if_pos rfl, if_pos rfl, setR_ne _ _ hxb]
          by_cases hxa : x = a
          · rw [hxa, ea, setR_at]; exact Nat.le_refl _
          · rw [setR_ne _ _ hxa, burR_at hx hxa hxb hal]
            split
            · exact stand_wt _ _ _ (by omega)
            · exact Nat.le_refl _
        · have : offB al b x = false := by unfold offB; rw [if_neg hxb]; simpa using hal
          rw [this]; exact Nat.zero_le _
    omega
