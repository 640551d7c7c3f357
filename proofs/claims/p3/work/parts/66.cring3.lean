/-! THE CLASS'S RINGS: ONE OUT, ONE IN -/
theorem cw_ne {k a b : Nat} (h : a ≠ b) : cw k a ≠ cw k b := by
  unfold cw
  omega
def offC (k : Nat) (m m' : Mem) (b : Nat) : Prop := ∀ c j, ¬ (c = cw k 7 ∧ j = b) → c ≠ cw k (9 + b) → m' c j = m c j
theorem cg_off {k : Nat} {m m' : Mem} {b b' : Nat} {l : List Nat} (h : cg k m b' l) (ho : offC k m m' b) (hn : b' ≠ b) : cg k m' b' l := by
  refine ⟨h.1, ?_, h.2.2.1, fun i hi => ?_⟩
  · rw [ho _ _ (fun z => hn z.2) (cw_ne (by omega))]
    exact h.2.1
  · rw [ho _ _ (fun z => absurd z.1 (cw_ne (by omega))) (cw_ne (by omega))]
    exact h.2.2.2 i hi
theorem CS_set {k : Nat} {m m' : Mem} {r : Nat → List Nat} {al : Nat → Bool} {b : Nat} {l : List Nat} (h : CS k m r al) (ala : al b = true) (ho : offC k m m' b) (hl : cg k m' b l) : CS k m' (setR r b l) al := by
  obtain ⟨⟨n, h1, h2, h3⟩, h4⟩ := h
  refine ⟨⟨n, h1, ?_, h3⟩, fun x hx => ?_⟩
  · rw [ho _ _ (fun z => absurd z.1 (cw_ne (by omega))) (cw_ne (by omega))]
    exact h2
  · by_cases e : x = b
    · subst e
      rw [setR_at, if_pos ala]
      exact hl
    · rw [setR_ne _ _ e]
      exact cg_off (h4 x hx) ho e
def tkM (k : Nat) (m : Mem) (b i j : Nat) : Mem := fun c a => if c = cw k (9 + b) ∧ i ≤ a ∧ a < i + j then m c (a + 1) else m c a
theorem takeOut_c {k : Nat} {m : Mem} {b x : Nat} {l : List Nat} (hb : b < 16) (hx : x ≤ 16) (h : cg k m b l) : ∃ m', fX0_takeOut k (o32 b) (o32 x) m = some m' ∧ cg k m' b (rmv l x) ∧ offC k m m' b := by
  unfold fX0_takeOut
  rw [placeOf_c hb hx h, Option.bind_some]
  by_cases hm : x ∈ l
  · obtain ⟨h1, h2, h3, h4⟩ := h
    have hi := List.idxOf_lt_length_of_mem hm
    rw [plc_in hm, if_pos (o_ge0 (by omega)), sidesOf_c hb ⟨h1, h2, h3, h4⟩, Option.bind_some, show o32 l.length - 1 = o32 (l.length - 1) from o_sub (b := 1) (by omega) (by omega)]
    unfold rmv
    generalize l.idxOf x = i at hi
    refine ⟨mput (tkM k m b i (l.length - 1 - i)) (cw k 7) b (o32 (l.length - 1)), ?_, ?_, ?_⟩
    · have e0 : tkM k m b i 0 = m := by
        funext c a
        unfold tkM
        rw [if_neg (by omega)]
      have st := lp_fwd (body := lX0_takeOut_24 k (o32 b) (o32 (l.length - 1))) (e := mput (tkM k m b i (l.length - 1 - i)) (cw k 7) b (o32 (l.length - 1))) (l.length - 1 - i) (fun j => (o32 (i + j), tkM k m b i j)) fu (fun j hj => ?_) ?_ (lt_fu (by omega))
      · skip
        rw [e0] at st
        exact st
      · unfold lX0_takeOut_24
        dsimp only
        rw [if_neg (by rw [o_le (by omega) (by omega)]; omega), o_s, if_neg (by rw [show (30 : Int32) = o32 30 from rfl, o_le (by omega) (by omega)]; omega), if_pos (o_inb hb (by omega)), if_pos (o_inb hb (by omega)), if_pos (o_inb (by omega) (by omega)), if_pos (o_inb (by omega) (by omega)), o_tn (by omega), o_tn (by omega), o_tn (by omega), show i + (j + 1) = i + j + 1 from rfl]
        congr 3
        funext c a
        rw [mput_get]
        unfold tkM
        by_cases hc : c = cw k (9 + b)
        · subst hc
          simp only [true_and]
          (repeat' split) <;> first | rfl | omega | (congr 1; omega)
        · simp only [hc, ↓reduceIte, false_and]
      · unfold lX0_takeOut_24 bX0_takeOut_66
        dsimp only
        rw [if_pos (by rw [o_le (by omega) (by omega)]; omega), if_pos (o_inb hb (by omega)), o_tn (by omega)]
        rfl
    · have hl : (l.eraseIdx i).length = l.length - 1 := by rw [List.length_eraseIdx, if_pos hi]
      refine ⟨by omega, ?_, fun y hy => h3 y (List.mem_of_mem_eraseIdx hy), fun j hj => ?_⟩
      · rw [mput_at, hl]
      · rw [mput_c _ _ _ (cw_ne (by omega)), List.getElem_eraseIdx]
        unfold tkM
        by_cases hk2 : j < i
        · rw [if_neg (by omega), dif_pos hk2]
          exact h4 j (by omega)
        · rw [if_pos ⟨rfl, by omega, by omega⟩, dif_neg hk2]
          exact h4 (j + 1) (by omega)
    · intro c j h5 h6
      rw [mput_get, if_neg h5]
      unfold tkM
      rw [if_neg (fun z => h6 z.1)]
  · have e : rmv l x = l := by
      unfold rmv
      rw [List.idxOf_eq_length hm]
      exact List.eraseIdx_of_length_le (Nat.le_refl _)
    rw [if_neg (fun z => by
      have := (plc_neg (by have := h.1; omega)).mpr hm
      rw [Int32.lt_iff_toInt_lt] at this
      rw [Int32.le_iff_toInt_le] at z
      omega), e]
    exact ⟨m, rfl, h, fun _ _ _ _ => rfl⟩
theorem takeOut_16 {k : Nat} {m : Mem} {x : Int32} : fX0_takeOut k 16 x m = some m := rfl
def ptM (k : Nat) (m : Mem) (b n j : Nat) : Mem := fun c a => if c = cw k (9 + b) ∧ n - j < a ∧ a ≤ n then m c (a - 1) else m c a
theorem putBehind_c {k : Nat} {m : Mem} {b x y : Nat} {l : List Nat} (hb : b < 16) (hx : x ≤ 16) (hy : y ≤ 16) (hm : y ∈ l) (hl : l.length < 30) (h : cg k m b l) : ∃ m', fX0_putBehind k (o32 b) (o32 y) (o32 x) m = some m' ∧ cg k m' b (insb l y x) ∧ offC k m m' b := by
  have hi := List.idxOf_lt_length_of_mem hm
  unfold fX0_putBehind insb
  rw [placeOf_c hb hy h, plc_in hm, Option.bind_some, sidesOf_c hb h, Option.bind_some, if_neg (not_lt0 (by omega)), if_pos (by rw [show (30 : Int32) = o32 30 from rfl, o_lt (by omega) (by omega)]; omega), if_pos hm]
  obtain ⟨h1, h2, h3, h4⟩ := h
  generalize l.idxOf y = i at hi
  refine ⟨mput (mput (ptM k m b l.length (l.length - 1 - i)) (cw k (9 + b)) (i + 1) (o32 x)) (cw k 7) b (o32 (l.length + 1)), ?_, ?_, ?_⟩
  · have e0 : ptM k m b l.length 0 = m := by
      funext c a
      unfold ptM
      rw [if_neg (by omega)]
    have st := lp_fwd (body := lX0_putBehind_32 k (o32 b) (o32 x) (o32 i) (o32 l.length)) (e := mput (mput (ptM k m b l.length (l.length - 1 - i)) (cw k (9 + b)) (i + 1) (o32 x)) (cw k 7) b (o32 (l.length + 1))) (l.length - 1 - i) (fun j => (o32 (l.length - j), ptM k m b l.length j)) fu (fun j hj => ?_) ?_ (lt_fu (by omega))
    · skip
      rw [e0] at st
      exact st
    · unfold lX0_putBehind_32
      dsimp only
      rw [o_s, if_neg (by rw [o_le (by omega) (by omega)]; omega), if_pos (o_inb hb (by omega)), if_pos (o_inb hb (by omega)), show o32 (l.length - j) - 1 = o32 (l.length - j - 1) from o_sub (b := 1) (by omega) (by omega), if_pos (o_inb (by omega) (by omega)), if_pos (o_inb (by omega) (by omega)), less1 (by omega) (by omega), o_tn (by omega), o_tn (by omega), o_tn (by omega), show l.length - j - 1 = l.length - (j + 1) from by omega]
      congr 3
      funext c a
      rw [mput_get]
      unfold ptM
      by_cases hc : c = cw k (9 + b)
      · subst hc
        simp only [true_and]
        (repeat' split) <;> first | rfl | omega | (congr 1; omega)
      · simp only [hc, ↓reduceIte, false_and]
    · unfold lX0_putBehind_32
      dsimp only
      rw [o_s, if_pos (by rw [o_le (by omega) (by omega)]; omega), if_pos (o_inb hb (by omega)), if_pos (o_inb (by omega) (by omega)), if_pos (o_inb hb (by omega)), o_s, o_tn (by omega), o_tn (by omega)]
  · have hl2 : (l.insertIdx (i + 1) x).length = l.length + 1 := List.length_insertIdx_of_le_length (by omega) x
    refine ⟨by omega, ?_, fun z hz => ?_, fun j hj => ?_⟩
    · rw [mput_at, hl2]
    · rcases (List.mem_insertIdx (by omega)).mp hz with z1 | z1
      · omega
      · exact h3 z z1
    · rw [mput_c _ _ _ (cw_ne (by omega)), mput_get, List.getElem_insertIdx]
      unfold ptM
      by_cases e1 : j < i + 1
      · rw [if_neg (by omega), if_neg (by omega), dif_pos e1]
        exact h4 j (by omega)
      · by_cases e2 : j = i + 1
        · rw [if_pos ⟨rfl, e2⟩, dif_neg e1, dif_pos e2]
        · rw [if_neg (by omega), if_pos ⟨rfl, by omega, by omega⟩, dif_neg e1, dif_neg e2]
          exact h4 (j - 1) (by omega)
  · intro c j h5 h6
    rw [mput_get, if_neg h5, mput_c _ _ _ h6]
    unfold ptM
    rw [if_neg (fun z => h6 z.1)]
theorem putBehind_16 {k : Nat} {m : Mem} {x y : Int32} : fX0_putBehind k 16 x y m = some m := rfl
def frC (k : Nat) (m m' : Mem) : Prop := ∀ c j, c ≠ cw k 7 → (∀ b, b < 16 → c ≠ cw k (9 + b)) → m' c j = m c j
theorem frC_of {k : Nat} {m m' : Mem} {b : Nat} (hb : b < 16) (h : offC k m m' b) : frC k m m' := fun c j h1 h2 => h c j (fun z => h1 z.1) (h2 b hb)
theorem frC_tr {k : Nat} {m m1 m2 : Mem} (h1 : frC k m m1) (h2 : frC k m1 m2) : frC k m m2 := fun c j a b => (h2 c j a b).trans (h1 c j a b)
theorem frC_rf {k : Nat} {m : Mem} : frC k m m := fun _ _ _ _ => rfl
theorem turnOver_c {k : Nat} {m : Mem} {r : Nat → List Nat} {al : Nat → Bool} {a b : Nat} (ha : a < 16) (hb : b < 16) (hs : CS k m r al) (hg : Gr r al) (hf : FC r al) (ala : al a = true) (alb : al b = true) (hab : b ∈ r a) (ht : mayTurn r a b) : ∃ m', fX0_turnOver k (o32 a) (o32 b) m = some (mput m' (cw k 2) 6 (m (cw k 2) 6 + 1)) ∧ CS k m' (turnR r a b) al ∧ frC k m m' := by
  obtain ⟨hla, hlb, hcd, hn⟩ := ht
  have hg' := turn_Gr ha hb hg ala alb hab hla hlb hcd hn
  have ba := CS_m (k := k) (m := m) hg ha ala hab
  have ba2 := ba.2 (by omega)
  have hc := prv_mem hab
  have hd := nxt_mem hab
  have hcb : prv (r a) b ≠ b := prv_ne hab (hg.2.1 a ha ala b (by omega)) (by omega)
  have hdb : nxt (r a) b ≠ b := nxt_ne hab (hg.2.1 a ha ala b (by omega)) (by omega)
  have pc := CS_m (k := k) (m := m) hg ha ala hc
  have pd := CS_m (k := k) (m := m) hg ha ala hd
  have hcb2 : prv (r a) b = nxt (r b) a := (hf b hb alb a ba2.2.2.2 (by omega)).symm
  have hbc : prv (r a) b ≠ 16 → b ∈ r (prv (r a) b) := fun z => by
    have := CS_m (k := k) (m := m) hg hb alb (nxt_mem ba2.2.2.2)
    rw [← hcb2] at this
    exact (this.2 z).2.2.2
  have eT := fun x => turn_at (r := r) (a := a) (b := b) (x := x) (fun z => ba2.2.2.1 z.symm) (fun z => by
    by_cases h16 : prv (r a) b = 16
    · omega
    · exact (pc.2 h16).2.2.1 z) hcb (fun z => by
    by_cases h16 : nxt (r a) b = 16
    · omega
    · exact (pd.2 h16).2.2.1 z) hdb hcd
  have lc : prv (r a) b ≠ 16 → (r (prv (r a) b)).length < 30 := fun z => by
    have l1 := Gr_len hg' (pc.2 z).1 (pc.2 z).2.1
    rw [eT, if_neg (pc.2 z).2.2.1, if_neg hcb, if_pos ⟨rfl, z⟩, insb_len] at l1
    omega
  have ld : nxt (r a) b ≠ 16 → (r (nxt (r a) b)).length < 30 := fun z => by
    have l1 := Gr_len hg' (pd.2 z).1 (pd.2 z).2.1
    rw [eT, if_neg (pd.2 z).2.2.1, if_neg hdb, if_neg (fun q => hcd q.1.symm), if_pos ⟨rfl, z⟩, insb_len] at l1
    omega
  have ga := CS_g hs ha ala
  unfold fX0_turnOver turnR
  rw [ahead_c ha (by omega) ga hab, behind_c ha (by omega) ga hab, Option.bind_some, Option.bind_some]
  generalize prv (r a) b = c at *
  generalize nxt (r a) b = d at *
  obtain ⟨m1, e1, s1, o1⟩ := takeOut_c (x := b) ha (by omega) ga
  rw [e1, Option.bind_some]
  have S1 := CS_set hs ala o1 s1
  have gb1 : cg k m1 b (r b) := cg_off (CS_g hs hb alb) o1 ba2.2.2.1
  obtain ⟨m2, e2, s2, o2⟩ := takeOut_c (x := a) hb (by omega) gb1
  rw [e2, Option.bind_some]
  have S2 := CS_set S1 alb o2 s2
  have f2 : frC k m m2 := frC_tr (frC_of ha o1) (frC_of hb o2)
  dsimp only
  have fin : ∀ (m3 : Mem) (r3 : Nat → List Nat), CS k m3 r3 al → frC k m m3 → (d ≠ 16 → r3 d = r d) → ∃ m', ((fX0_putBehind k (o32 d) (o32 a) (o32 c) m3).bind fun q6 => some (mput q6 (cw k 2) 6 ((q6 (cw k 2) 6) + 1))) = some (mput m' (cw k 2) 6 (m (cw k 2) 6 + 1)) ∧ CS k m' (if d = 16 then r3 else setR r3 d (insb (r3 d) a c)) al ∧ frC k m m' := by
    intro m3 r3 S3 f3 hl3
    by_cases h16 : d = 16
    · subst h16
      rw [if_pos rfl, show fX0_putBehind k (o32 16) (o32 a) (o32 c) m3 = _ from putBehind_16, Option.bind_some, f3 _ _ (cw_ne (by omega)) (fun b _ => cw_ne (by omega))]
      exact ⟨m3, rfl, S3, f3⟩
    · have pd2 := pd.2 h16
      have gd := CS_g S3 pd2.1 pd2.2.1
      rw [if_neg h16]
      have e3 := hl3 h16
      obtain ⟨m4, e4, s4, o4⟩ := putBehind_c (x := c) (y := a) pd2.1 pc.1 (by omega) (by rw [e3]; exact pd2.2.2.2) (by rw [e3]; exact ld h16) gd
      have f4 := frC_tr f3 (frC_of pd2.1 o4)
      rw [e4, Option.bind_some, f4 _ _ (cw_ne (by omega)) (fun b _ => cw_ne (by omega))]
      exact ⟨m4, rfl, CS_set S3 pd2.2.1 o4 s4, f4⟩
  by_cases h16 : c = 16
  · subst h16
    rw [if_pos rfl, show fX0_putBehind k (o32 16) (o32 b) (o32 d) m2 = _ from putBehind_16, Option.bind_some]
    exact fin m2 _ S2 f2 (fun z => by rw [setR_ne _ _ hdb, setR_ne _ _ (pd.2 z).2.2.1])
  · have pc2 := pc.2 h16
    have gc := CS_g S2 pc2.1 pc2.2.1
    have ec : setR (setR r a (rmv (r a) b)) b (rmv (r b) a) c = r c := by rw [setR_ne _ _ hcb, setR_ne _ _ pc2.2.2.1]
    rw [if_neg h16]
    obtain ⟨m3, e3, s3, o3⟩ := putBehind_c (x := d) (y := b) pc2.1 pd.1 (by omega) (by rw [ec]; exact hbc h16) (by rw [ec]; exact lc h16) gc
    rw [e3, Option.bind_some]
    exact fin m3 _ (CS_set S2 pc2.2.1 o3 s3) (frC_tr f2 (frC_of pc2.1 o3)) (fun z => by rw [setR_ne _ _ (fun q => hcd q.symm), setR_ne _ _ hdb, setR_ne _ _ (pd.2 z).2.2.1])
