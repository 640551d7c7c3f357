/-! A TURN -/
noncomputable def frR (m m' : Mem) : Prop := ∀ c j, ¬ (c = 138 ∧ ∃ b, b < 16 ∧ 12 + 50 * b + 5 ≤ j ∧ j < 12 + 50 * b + 50) → m' c j = m c j
theorem frR_rf {m : Mem} : frR m m := fun _ _ _ => rfl
theorem frR_tr {m m1 m2 : Mem} (h1 : frR m m1) (h2 : frR m1 m2) : frR m m2 := fun c j h => (h2 c j h).trans (h1 c j h)
theorem frR_of {m m' : Mem} {b : Nat} (hb : b < 16) (h : offR m m' b) : frR m m' := fun c j hn => h c j (fun z => hn ⟨z.1, b, hb, z.2⟩)
theorem RS_set {m m' : Mem} {r : Nat → List Nat} {al : Nat → Bool} {b : Nat} {l : List Nat} (hb : b < 16) (h : RS m r al) (ho : offR m m' b) (hl : rgAt m' b l) : RS m' (setR r b l) al := by
  intro x hx
  refine ⟨?_, fun ha => ?_⟩
  · rw [ho 138 _ (by omega)]
    exact (h x hx).1
  · by_cases e : x = b
    · subst e
      rw [setR_at]
      exact hl
    · rw [setR_ne r l e]
      exact rgAt_off ((h x hx).2 ha) ho e
theorem rgAt_put {m : Mem} {b j : Nat} {x : Int32} {l : List Nat} (h : rgAt m b l) (hj : j < 12 ∨ 812 ≤ j) (hb : b < 16) : rgAt (mput m 138 j x) b l := by
  obtain ⟨h1, h2, h3, h4⟩ := h
  refine ⟨h1, ?_, h3, fun i hi => ?_⟩
  · rw [mput_get, if_neg (by omega)]; exact h2
  · rw [mput_get, if_neg (by omega)]; exact h4 i hi
theorem RS_put {m : Mem} {r : Nat → List Nat} {al : Nat → Bool} {j : Nat} {x : Int32} (h : RS m r al) (hj : j < 12 ∨ 812 ≤ j) : RS (mput m 138 j x) r al := fun b hb => ⟨by rw [mput_get, if_neg (by omega)]; exact (h b hb).1, fun ha => rgAt_put ((h b hb).2 ha) hj hb⟩
noncomputable def rmv (l : List Nat) (x : Nat) : List Nat := l.eraseIdx (l.idxOf x)
theorem rmv_eq (l : List Nat) (x : Nat) : rmv l x = l.erase x := by
  unfold rmv
  induction l with
  | nil => rfl
  | cons a l ih =>
    rw [List.idxOf_cons, List.erase_cons]
    by_cases h : (a == x) = true
    · rw [h]; rfl
    · have h' : (a == x) = false := by simpa using h
      rw [h']
      show a :: l.eraseIdx (l.idxOf x) = a :: l.erase x
      rw [ih]
theorem rmv_count (l : List Nat) (x y : Nat) : (rmv l x).count y = l.count y - (if y = x then 1 else 0) := by
  rw [rmv_eq, List.count_erase]
  by_cases h : y = x
  · subst h; simp
  · have : (x == y) = false := by simpa using fun z => h z.symm
    rw [this, if_neg h]; rfl
theorem rmv_mem {l : List Nat} {x y : Nat} (hc : l.count x ≤ 1) : y ∈ rmv l x ↔ y ∈ l ∧ y ≠ x := by
  rw [← List.count_pos_iff, rmv_count, ← List.count_pos_iff]
  by_cases h : y = x
  · subst h
    rw [if_pos rfl]
    omega
  · rw [if_neg h]
    exact ⟨fun z => ⟨by omega, h⟩, fun z => by omega⟩
theorem rmv_len {l : List Nat} {x : Nat} (h : x ∈ l) : (rmv l x).length = l.length - 1 := by
  unfold rmv
  rw [List.length_eraseIdx, if_pos (List.idxOf_lt_length_of_mem h)]
/-- where x comes: right behind y (or first) -/
noncomputable def insb (l : List Nat) (y x : Nat) : List Nat := l.insertIdx (if y ∈ l then l.idxOf y + 1 else 0) x
theorem insb_le (l : List Nat) (y : Nat) : (if y ∈ l then l.idxOf y + 1 else 0) ≤ l.length := by
  by_cases h : y ∈ l
  · rw [if_pos h]; exact List.idxOf_lt_length_of_mem h
  · rw [if_neg h]; exact Nat.zero_le _
theorem insb_len (l : List Nat) (y x : Nat) : (insb l y x).length = l.length + 1 := List.length_insertIdx_of_le_length (insb_le l y) x
theorem insb_mem (l : List Nat) (y x z : Nat) : z ∈ insb l y x ↔ z = x ∨ z ∈ l := List.mem_insertIdx (insb_le l y)
theorem insb_count (l : List Nat) (y x z : Nat) : (insb l y x).count z = l.count z + (if z = x then 1 else 0) := by
  have := (List.perm_insertIdx x l (insb_le l y)).count_eq z
  show (l.insertIdx _ x).count z = _
  rw [this, List.count_cons]
  by_cases h : z = x
  · subst h; simp
  · have : (x == z) = false := by simpa using fun w => h w.symm
    rw [this, if_neg h]; rfl
theorem plc_s1 (l : List Nat) (y : Nat) (hl : l.length < 1000) : plc l y + 1 = o32 (if y ∈ l then l.idxOf y + 1 else 0) := by
  unfold plc
  by_cases h : y ∈ l
  · rw [if_pos h, if_pos h, o_s]
  · rw [if_neg h, if_neg h]; rfl
noncomputable def turnR (r : Nat → List Nat) (a b : Nat) : Nat → List Nat :=
  let c := prv (r a) b
  let d := nxt (r a) b
  let r2 := setR (setR r a (rmv (r a) b)) b (rmv (r b) a)
  let r3 := if c = 16 then r2 else setR r2 c (insb (r2 c) b d)
  if d = 16 then r3 else setR r3 d (insb (r3 d) a c)
theorem shutsP {m : Mem} {b x : Nat} {l : List Nat} (hb : b < 16) (h : rgAt m b l) (hm : x ∈ l) : ∃ m', fX9_shuts (o32 b) (plc l x) m = some m' ∧ rgAt m' b (rmv l x) ∧ offR m m' b := by
  rw [plc_in hm]
  exact shuts_s hb h (List.idxOf_lt_length_of_mem hm)
theorem opensP {m : Mem} {b x y : Nat} {l : List Nat} (hb : b < 16) (h : rgAt m b l) (hx : x ≤ 16) (hl : l.length < 44) : ∃ m', fX9_opens (o32 b) (plc l y + 1) (o32 x) m = some m' ∧ rgAt m' b (insb l y x) ∧ offR m m' b := by
  rw [plc_s1 l y (by omega)]
  exact opens_s hb h (insb_le l y) hx hl
theorem turns_s {m : Mem} {r : Nat → List Nat} {al : Nat → Bool} {a b : Nat} (ha : a < 16) (hb : b < 16) (hs : RS m r al) (hg : Gr r al) (ala : al a = true) (alb : al b = true) (hab : b ∈ r a) (hla : 4 ≤ (r a).length) (hcd : prv (r a) b ≠ nxt (r a) b) :
    ∃ m', fX9_turns (o32 a) (o32 b) m = some (mput m' 138 8 (m 138 8 + 1)) ∧ RS m' (turnR r a b) al ∧ frR m m' := by
  obtain ⟨g1, g2, g3⟩ := hg
  have hg : Gr r al := ⟨g1, g2, g3⟩
  have sa := (hs a ha).2 ala
  have ba := g1 a ha ala b hab
  have hba : b ≠ a := (ba.2 (by omega)).2.1
  have hab2 : a ∈ r b := (ba.2 (by omega)).2.2
  have hc := prv_mem hab
  have hd := nxt_mem hab
  have hcb : prv (r a) b ≠ b := prv_ne hab (g2 a ha ala b (by omega)) (by omega)
  have hdb : nxt (r a) b ≠ b := nxt_ne hab (g2 a ha ala b (by omega)) (by omega)
  have pc := g1 a ha ala _ hc
  have pd := g1 a ha ala _ hd
  generalize hcc : prv (r a) b = c at hcd hc hcb pc
  generalize hdd : nxt (r a) b = d at hcd hd hdb pd
  have e16 : ∀ z, z ≤ 16 → (o32 z = 16 ↔ z = 16) := fun z hz => by rw [show (16 : Int32) = o32 16 from rfl, o_eq (by omega) (by omega)]
  have m8 : ∀ m3 : Mem, frR m m3 → m3 138 8 = m 138 8 := fun m3 h3 => h3 138 8 (fun z => by obtain ⟨_, b, _, h, _⟩ := z; omega)
  have fin : ∀ (m3 : Mem) (r3 : Nat → List Nat), RS m3 r3 al → frR m m3 → (d ≠ 16 → (r3 d).length < 44) → ∃ m', bX9_turns_58 (o32 a) (o32 c) (o32 d) m3 = some (mput m' 138 8 (m 138 8 + 1)) ∧ RS m' (if d = 16 then r3 else setR r3 d (insb (r3 d) a c)) al ∧ frR m m' := by
    intro m3 r3 S3 f3 hl3
    unfold bX9_turns_58 bX9_turns_81
    by_cases h16 : d = 16
    · rw [if_pos ((e16 d pd.1).mpr h16), if_pos h16]
      exact ⟨m3, by rw [m8 m3 f3], S3, f3⟩
    · have hd16 : d < 16 := by have := pd.1; omega
      have sd := (S3 d hd16).2 (pd.2 h16).1
      rw [if_neg (fun z => h16 ((e16 d pd.1).mp z)), if_neg h16, placeIn_s hd16 (by omega) sd, Option.bind_some]
      obtain ⟨m4, e4, s4, o4⟩ := opensP (x := c) (y := a) hd16 sd pc.1 (hl3 h16)
      rw [e4, Option.bind_some]
      have f4 := frR_tr f3 (frR_of hd16 o4)
      exact ⟨m4, by rw [m8 m4 f4], RS_set hd16 S3 o4 s4, f4⟩
  unfold fX9_turns turnR
  rw [ahead_s ha (by omega) sa hab, hcc, Option.bind_some, behind_s ha (by omega) sa hab, hdd, Option.bind_some, placeIn_s ha (by omega) sa, Option.bind_some]
  obtain ⟨m1, e1, s1, o1⟩ := shutsP ha sa hab
  rw [e1, Option.bind_some]
  have S1 := RS_set ha hs o1 s1
  have sb1 : rgAt m1 b (r b) := rgAt_off ((hs b hb).2 alb) o1 hba
  rw [placeIn_s hb (by omega) sb1, Option.bind_some]
  obtain ⟨m2, e2, s2, o2⟩ := shutsP hb sb1 hab2
  rw [e2, Option.bind_some]
  have S2 : RS m2 (setR (setR r a (rmv (r a) b)) b (rmv (r b) a)) al := RS_set hb S1 o2 s2
  have f2 : frR m m2 := frR_tr (frR_of ha o1) (frR_of hb o2)
  dsimp only
  by_cases hc16 : c = 16
  · rw [if_pos ((e16 c pc.1).mpr hc16), if_pos hc16]
    refine fin m2 _ S2 f2 (fun h16 => ?_)
    have hd16 : d < 16 := by have := pd.1; omega
    rw [setR_ne _ _ hdb, setR_ne _ _ (pd.2 h16).2.1]
    have := Gr_len hg hd16 (pd.2 h16).1
    omega
  · have hc' : c < 16 := by have := pc.1; omega
    have ec : (setR (setR r a (rmv (r a) b)) b (rmv (r b) a)) c = r c := by rw [setR_ne _ _ hcb, setR_ne _ _ (pc.2 hc16).2.1]
    have sc := (S2 c hc').2 (pc.2 hc16).1
    have lc := Gr_len hg hc' (pc.2 hc16).1
    rw [if_neg (fun z => hc16 ((e16 c pc.1).mp z)), if_neg hc16, placeIn_s hc' (by omega) sc, Option.bind_some]
    obtain ⟨m3, e3, s3, o3⟩ := opensP (x := d) (y := b) hc' sc pd.1 (by rw [ec]; omega)
    rw [e3, Option.bind_some]
    refine fin m3 _ (RS_set hc' S2 o3 s3) (frR_tr f2 (frR_of hc' o3)) (fun h16 => ?_)
    have hd16 : d < 16 := by have := pd.1; omega
    rw [setR_ne _ _ (fun z => hcd z.symm), setR_ne _ _ hdb, setR_ne _ _ (pd.2 h16).2.1]
    have := Gr_len hg hd16 (pd.2 h16).1
    omega
theorem turn_at {r : Nat → List Nat} {a b x : Nat} (hab : a ≠ b) (hca : prv (r a) b ≠ a) (hcb : prv (r a) b ≠ b) (hda : nxt (r a) b ≠ a) (hdb : nxt (r a) b ≠ b) (hcd : prv (r a) b ≠ nxt (r a) b) : turnR r a b x = if x = a then rmv (r a) b else if x = b then rmv (r b) a else if x = prv (r a) b ∧ x ≠ 16 then insb (r x) b (nxt (r a) b) else if x = nxt (r a) b ∧ x ≠ 16 then insb (r x) a (prv (r a) b) else r x := by
  unfold turnR
  generalize prv (r a) b = c at hca hcb hcd
  generalize nxt (r a) b = d at hda hdb hcd
  have q1 := hab.symm
  have q2 := hca.symm
  have q3 := hcb.symm
  have q4 := hda.symm
  have q5 := hdb.symm
  have q6 := hcd.symm
  unfold setR
  by_cases h1 : x = a
  · subst h1
    rw [if_pos rfl]
    split <;> split <;> simp_all
  · rw [if_neg h1]
    by_cases h2 : x = b
    · subst h2
      rw [if_pos rfl]
      split <;> split <;> simp_all
    · rw [if_neg h2]
      by_cases h3 : x = c
      · subst h3
        split <;> split <;> simp_all
      · by_cases h4 : x = d
        · subst h4
          split <;> split <;> simp_all
        · split <;> split <;> simp_all
theorem wt_rmv {l : List Nat} {x : Nat} (h : x ∈ l) (h16 : x ≠ 16) (hl : 4 ≤ l.length) : wt (rmv l x) + 1 = wt l := by
  unfold wt
  rw [rmv_len h, rmv_count, if_neg (Ne.symm h16)]
  omega
theorem wt_insb (l : List Nat) (y x : Nat) : wt (insb l y x) ≤ wt l + 1 + (if x = 16 then 1 else 0) := by
  unfold wt
  rw [insb_len, insb_count]
  by_cases e : x = 16
  · rw [if_pos e, if_pos e.symm]; omega
  · rw [if_neg e, if_neg (Ne.symm e)]; omega
theorem turn_Gr {r : Nat → List Nat} {al : Nat → Bool} {a b : Nat} (ha : a < 16) (hb : b < 16) (hg : Gr r al) (ala : al a = true) (alb : al b = true) (hab : b ∈ r a) (hla : 4 ≤ (r a).length) (hlb : 4 ≤ (r b).length) (hcd : prv (r a) b ≠ nxt (r a) b) (hn : if prv (r a) b = 16 then 16 ∉ r (nxt (r a) b) else nxt (r a) b ∉ r (prv (r a) b)) : Gr (turnR r a b) al := by
  obtain ⟨g1, g2, g3⟩ := hg
  have ba := g1 a ha ala b hab
  have hba : b ≠ a := (ba.2 (by omega)).2.1
  have hab2 : a ∈ r b := (ba.2 (by omega)).2.2
  have hc := prv_mem hab
  have hd := nxt_mem hab
  have hcb : prv (r a) b ≠ b := prv_ne hab (g2 a ha ala b (by omega)) (by omega)
  have hdb : nxt (r a) b ≠ b := nxt_ne hab (g2 a ha ala b (by omega)) (by omega)
  have pc := g1 a ha ala _ hc
  have pd := g1 a ha ala _ hd
  have hca : prv (r a) b ≠ a := fun z => by
    by_cases e : prv (r a) b = 16
    · omega
    · exact (pc.2 e).2.1 z
  have hda : nxt (r a) b ≠ a := fun z => by
    by_cases e : nxt (r a) b = 16
    · omega
    · exact (pd.2 e).2.1 z
  have T : ∀ x, turnR r a b x = _ := fun x => turn_at (x := x) (fun z => hba z.symm) hca hcb hda hdb hcd
  have hU : Ur (turnR r a b) al ≤ Ur r al := by
    unfold turnR
    dsimp only
    generalize prv (r a) b = c at hc hcb pc hca hcd hn T
    generalize nxt (r a) b = d at hd hdb pd hda hcd hn T
    have u1 := Ur_set (r := r) (l := rmv (r a) b) ha ala
    have u2 := Ur_set (r := setR r a (rmv (r a) b)) (l := rmv (r b) a) hb alb
    rw [setR_ne _ _ hba] at u2
    have w1 := wt_rmv hab (by omega) hla
    have w2 := wt_rmv hab2 (by omega) hlb
    have u3 : Ur (if c = 16 then setR (setR r a (rmv (r a) b)) b (rmv (r b) a) else setR (setR (setR r a (rmv (r a) b)) b (rmv (r b) a)) c (insb (setR (setR r a (rmv (r a) b)) b (rmv (r b) a) c) b d)) al ≤ Ur (setR (setR r a (rmv (r a) b)) b (rmv (r b) a)) al + (if c = 16 then 0 else if d = 16 then 2 else 1) := by
      by_cases e : c = 16
      · rw [if_pos e, if_pos e]; omega
      · rw [if_neg e, if_neg e]
        have := Ur_set (r := setR (setR r a (rmv (r a) b)) b (rmv (r b) a)) (l := insb (setR (setR r a (rmv (r a) b)) b (rmv (r b) a) c) b d) (b := c) (by have := pc.1; omega) (pc.2 e).1
        have w := wt_insb (setR (setR r a (rmv (r a) b)) b (rmv (r b) a) c) b d
        by_cases e2 : d = 16
        · rw [if_pos e2] at w ⊢; omega
        · rw [if_neg e2] at w ⊢; omega
    generalize (if c = 16 then setR (setR r a (rmv (r a) b)) b (rmv (r b) a) else setR (setR (setR r a (rmv (r a) b)) b (rmv (r b) a)) c (insb (setR (setR r a (rmv (r a) b)) b (rmv (r b) a) c) b d)) = r3 at u3
    by_cases e : d = 16
    · rw [if_pos e]
      rw [if_neg (fun z => hcd (by rw [z, e])), if_pos e] at u3
      omega
    · rw [if_neg e]
      rw [if_neg e] at u3
      have := Ur_set (r := r3) (l := insb (r3 d) a c) (b := d) (by have := pd.1; omega) (pd.2 e).1
      have w := wt_insb (r3 d) a c
      by_cases e2 : c = 16
      · rw [if_pos e2] at w u3; omega
      · rw [if_neg e2] at w u3; omega
  generalize hcc : prv (r a) b = c at hc hcb pc hca hcd hn T
  generalize hdd : nxt (r a) b = d at hd hdb pd hda hcd hn T
  have cnd : d ≠ 16 → c ≠ 16 → d ∉ r c ∧ c ∉ r d := fun h1 h2 => by
    rw [if_neg h2] at hn
    refine ⟨hn, fun z => hn ?_⟩
    exact ((g1 d (by have := pd.1; omega) (pd.2 h1).1 c z).2 h2).2.2
  have memT : ∀ x y, x < 16 → al x = true → y ≠ 16 → (y ∈ turnR r a b x ↔ (y ∈ r x ∧ ¬ (x = a ∧ y = b) ∧ ¬ (x = b ∧ y = a)) ∨ (x = c ∧ y = d) ∨ (x = d ∧ y = c)) := by
    intro x y hx hax hy
    rw [T x]
    by_cases h1 : x = a
    · subst h1
      rw [if_pos rfl, rmv_mem (g2 x hx hax b (by omega))]
      constructor
      · intro z; exact Or.inl ⟨z.1, fun w => z.2 w.2, fun w => hba w.1.symm⟩
      · rintro (z | z | z)
        · exact ⟨z.1, fun w => z.2.1 ⟨rfl, w⟩⟩
        · exact absurd z.1.symm hca
        · exact absurd z.1.symm hda
    · rw [if_neg h1]
      by_cases h2 : x = b
      · subst h2
        rw [if_pos rfl, rmv_mem (g2 x hx hax a (by omega))]
        constructor
        · intro z; exact Or.inl ⟨z.1, fun w => h1 w.1, fun w => z.2 w.2⟩
        · rintro (z | z | z)
          · exact ⟨z.1, fun w => z.2.2 ⟨rfl, w⟩⟩
          · exact absurd z.1.symm hcb
          · exact absurd z.1.symm hdb
      · rw [if_neg h2]
        by_cases h3 : x = c
        · subst h3
          rw [if_pos ⟨rfl, by omega⟩, insb_mem]
          constructor
          · rintro (z | z)
            · exact Or.inr (Or.inl ⟨rfl, z⟩)
            · exact Or.inl ⟨z, fun w => h1 w.1, fun w => h2 w.1⟩
          · rintro (z | z | z)
            · exact Or.inr z.1
            · exact Or.inl z.2
            · exact absurd z.1 hcd
        · rw [if_neg (fun z => h3 z.1)]
          by_cases h4 : x = d
          · subst h4
            rw [if_pos ⟨rfl, by omega⟩, insb_mem]
            constructor
            · rintro (z | z)
              · exact Or.inr (Or.inr ⟨rfl, z⟩)
              · exact Or.inl ⟨z, fun w => h1 w.1, fun w => h2 w.1⟩
            · rintro (z | z | z)
              · exact Or.inr z.1
              · exact absurd z.1 h3
              · exact Or.inl z.2
          · rw [if_neg (fun z => h4 z.1)]
            constructor
            · intro z; exact Or.inl ⟨z, fun w => h1 w.1, fun w => h2 w.1⟩
            · rintro (z | z | z)
              · exact z.1
              · exact absurd z.1 h3
              · exact absurd z.1 h4
  have le16 : ∀ x, x < 16 → al x = true → ∀ y ∈ turnR r a b x, y ≤ 16 := by
    intro x hx hax y hy
    by_cases hy16 : y = 16
    · omega
    · rcases (memT x y hx hax hy16).mp hy with z | z | z
      · exact (g1 x hx hax y z.1).1
      · rw [z.2]; exact pd.1
      · rw [z.2]; exact pc.1
  refine ⟨fun x hx hax y hy => ⟨le16 x hx hax y hy, fun hy16 => ?_⟩, fun x hx hax y hy16 => ?_, Nat.le_trans hU g3⟩
  · have hy' : y < 16 := by have := le16 x hx hax y hy; omega
    rcases (memT x y hx hax hy16).mp hy with z | z | z
    · have p := (g1 x hx hax y z.1).2 hy16
      refine ⟨p.1, p.2.1, (memT y x hy' p.1 (by omega)).mpr (Or.inl ⟨p.2.2, fun w => z.2.2 ⟨w.2, w.1⟩, fun w => z.2.1 ⟨w.2, w.1⟩⟩)⟩
    · obtain ⟨z1, z2⟩ := z
      subst z1
      subst z2
      exact ⟨(pd.2 hy16).1, fun w => hcd w.symm, (memT y x hy' (pd.2 hy16).1 (by omega)).mpr (Or.inr (Or.inr ⟨rfl, rfl⟩))⟩
    · obtain ⟨z1, z2⟩ := z
      subst z1
      subst z2
      exact ⟨(pc.2 hy16).1, hcd, (memT y x hy' (pc.2 hy16).1 (by omega)).mpr (Or.inr (Or.inl ⟨rfl, rfl⟩))⟩
  · rw [T x]
    by_cases h1 : x = a
    · subst h1
      rw [if_pos rfl, rmv_count]
      have := g2 x hx hax y hy16
      omega
    · rw [if_neg h1]
      by_cases h2 : x = b
      · subst h2
        rw [if_pos rfl, rmv_count]
        have := g2 x hx hax y hy16
        omega
      · rw [if_neg h2]
        by_cases h3 : x = c
        · subst h3
          rw [if_pos ⟨rfl, by omega⟩, insb_count]
          by_cases e : y = d
          · have h0 := (cnd (by omega) (by omega)).1
            rw [if_pos e, e, List.count_eq_zero.mpr h0]
            omega
          · rw [if_neg e]
            exact g2 x hx hax y hy16
        · rw [if_neg (fun z => h3 z.1)]
          by_cases h4 : x = d
          · subst h4
            rw [if_pos ⟨rfl, by omega⟩, insb_count]
            by_cases e : y = c
            · have h0 := (cnd (by omega) (by omega)).2
              rw [if_pos e, e, List.count_eq_zero.mpr h0]
              omega
            · rw [if_neg e]
              exact g2 x hx hax y hy16
          · rw [if_neg (fun z => h4 z.1)]
            exact g2 x hx hax y hy16
