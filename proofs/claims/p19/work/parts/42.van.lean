/-! WHETHER it can be turned, vanish; A VANISHING -/
theorem lp_ix {S E : Type} {body : S → Option (S ⊕ E)} (I : Nat → S → Prop) (Q : E → Prop) : ∀ (k i : Nat) (s : S) (n : Nat), I i s → (∀ j s, i ≤ j → j < i + k → I j s → ∃ s', body s = some (.inl s') ∧ I (j + 1) s') → (∀ s, I (i + k) s → ∃ e, body s = some (.inr e) ∧ Q e) → k < n → ∃ e, lp body n s = some e ∧ Q e
  | 0, i, s, n, hi, _, he, hk => by
    obtain ⟨n, rfl⟩ : ∃ z, n = z + 1 := ⟨n - 1, by omega⟩
    obtain ⟨e, e1, e2⟩ := he s hi
    unfold lp
    rw [e1]
    exact ⟨e, rfl, e2⟩
  | k + 1, i, s, n, hi, hs, he, hk => by
    obtain ⟨n, rfl⟩ : ∃ z, n = z + 1 := ⟨n - 1, by omega⟩
    obtain ⟨s', e1, e2⟩ := hs i s (Nat.le_refl _) (by omega) hi
    unfold lp
    rw [e1]
    exact lp_ix I Q k (i + 1) s' n e2 (fun j s h1 h2 => hs j s (by omega) (by omega)) (fun s h => he s (by rw [show i + (k + 1) = i + 1 + k by omega]; exact h)) (by omega)
theorem e16 {z : Nat} (hz : z ≤ 16) : o32 z = 16 ↔ z = 16 := by rw [show (16 : Int32) = o32 16 from rfl, o_eq (by omega) (by omega)]
/-- a wall that can be turned -/
noncomputable def mayTurn (r : Nat → List Nat) (a b : Nat) : Prop := 4 ≤ (r a).length ∧ 4 ≤ (r b).length ∧ prv (r a) b ≠ nxt (r a) b ∧ (if prv (r a) b = 16 then 16 ∉ r (nxt (r a) b) else nxt (r a) b ∉ r (prv (r a) b))
theorem canTurn_s {m : Mem} {r : Nat → List Nat} {al : Nat → Bool} {a b : Nat} (ha : a < 16) (hb : b < 16) (hs : RS m r al) (hg : Gr r al) (ala : al a = true) (alb : al b = true) (hab : b ∈ r a) : ∃ v : Int32, fX9_canTurn (o32 a) (o32 b) m = some v ∧ ((v = 1 ∧ mayTurn r a b) ∨ (v = 0 ∧ ¬ mayTurn r a b)) := by
  have sa := (hs a ha).2 ala
  have sb := (hs b hb).2 alb
  have hc := prv_mem hab
  have hd := nxt_mem hab
  have pc := hg.1 a ha ala _ hc
  have pd := hg.1 a ha ala _ hd
  unfold fX9_canTurn mayTurn
  rw [ahead_s ha (by omega) sa hab, Option.bind_some, behind_s ha (by omega) sa hab, Option.bind_some, sd_o ha, sa.2.1, Option.bind_some]
  generalize prv (r a) b = c at *
  generalize nxt (r a) b = d at *
  have la := sa.1
  have lb := sb.1
  by_cases h1 : 4 ≤ (r a).length
  · rw [if_neg (by rw [show (4 : Int32) = o32 4 from rfl, o_lt (by omega) (by omega)]; omega), sd_o hb, sb.2.1, Option.bind_some]
    by_cases h2 : 4 ≤ (r b).length
    · rw [if_neg (by rw [show (4 : Int32) = o32 4 from rfl, o_lt (by omega) (by omega)]; omega)]
      by_cases h3 : c = d
      · rw [if_pos (by rw [h3])]
        exact ⟨0, rfl, Or.inr ⟨rfl, fun z => z.2.2.1 h3⟩⟩
      · rw [if_neg (by rw [o_eq (by omega) (by omega)]; exact h3)]
        by_cases h4 : c = 16
        · have hd' : d < 16 := by omega
          have sd := (hs d hd').2 (pd.2 (by omega)).1
          rw [if_pos ((e16 pc.1).mpr h4), h4, isWall_s hd' (by omega) sd, Option.bind_some]
          by_cases h5 : 16 ∈ r d
          · rw [if_pos h5]
            refine ⟨0, by decide, Or.inr ⟨rfl, fun z => ?_⟩⟩
            have := z.2.2.2
            rw [if_pos rfl] at this
            exact this h5
          · rw [if_neg h5]
            exact ⟨1, by decide, Or.inl ⟨rfl, h1, h2, fun z => h3 (by omega), by rw [if_pos rfl]; exact h5⟩⟩
        · have hc' : c < 16 := by omega
          have sc := (hs c hc').2 (pc.2 (by omega)).1
          rw [if_neg (fun z => h4 ((e16 pc.1).mp z)), isWall_s hc' pd.1 sc, Option.bind_some]
          by_cases h5 : d ∈ r c
          · rw [if_pos h5]
            refine ⟨0, by decide, Or.inr ⟨rfl, fun z => ?_⟩⟩
            have := z.2.2.2
            rw [if_neg h4] at this
            exact this h5
          · rw [if_neg h5]
            exact ⟨1, by decide, Or.inl ⟨rfl, h1, h2, h3, by rw [if_neg h4]; exact h5⟩⟩
    · rw [if_pos (by rw [show (4 : Int32) = o32 4 from rfl, o_lt (by omega) (by omega)]; omega)]
      exact ⟨0, rfl, Or.inr ⟨rfl, fun z => h2 z.2.1⟩⟩
  · rw [if_pos (by rw [show (4 : Int32) = o32 4 from rfl, o_lt (by omega) (by omega)]; omega)]
    exact ⟨0, rfl, Or.inr ⟨rfl, fun z => h1 z.1⟩⟩
noncomputable def okS (r : Nat → List Nat) (x : Nat) : Bool := decide (x = 16) || decide (4 ≤ (r x).length)
noncomputable def i01 (b : Bool) : Int32 := if b then 1 else 0
theorem i01_z (b : Bool) : i01 b = 0 ∨ i01 b = 1 := by cases b <;> decide
theorem i01_0 (b : Bool) : i01 b = 0 ↔ b = false := by cases b <;> decide
/-- that b vanishes -/
noncomputable def mayVan (r : Nat → List Nat) (a : Nat) : Bool := (r a).all (okS r)
theorem canVanish_s {m : Mem} {r : Nat → List Nat} {al : Nat → Bool} {a : Nat} (ha : a < 16) (hs : RS m r al) (hg : Gr r al) (ala : al a = true) : fX9_canVanish (o32 a) m = some (i01 (mayVan r a)) := by
  have sa := (hs a ha).2 ala
  obtain ⟨h1, h2, h3, h4⟩ := sa
  unfold fX9_canVanish
  have st : ((1 : Int32), (0 : Int32)) = (fun i => (i01 (((r a).take i).all (okS r)), o32 i)) 0 := rfl
  rw [st]
  refine lp_fwd (body := lX9_canVanish_4 (o32 a) m) (r a).length (fun i => (i01 (((r a).take i).all (okS r)), o32 i)) fu (fun i hi => ?_) ?_ (lt_fu (by omega))
  · unfold lX9_canVanish_4
    dsimp only
    rw [sd_o ha, h2, Option.bind_some, if_neg (by rw [o_le (by omega) (by omega)]; omega), rg_o ha (by omega), h4 i hi, Option.bind_some, o_s, tk1 hi, List.all_append]
    have px := hg.1 a ha ala _ (List.getElem_mem hi)
    generalize (r a)[i] = x at px
    cases hb : ((r a).take i).all (okS r) with
    | false => rw [if_pos (by decide)]; rfl
    | true =>
      rw [if_neg (by decide)]
      by_cases e : x = 16
      · rw [if_pos ((e16 px.1).mpr e), e]
        rfl
      · have hx : x < 16 := by omega
        have sx := (hs x hx).2 (px.2 e).1
        have lx := sx.1
        rw [if_neg (fun z => e ((e16 px.1).mp z)), sd_o hx, sx.2.1, Option.bind_some]
        by_cases e2 : 4 ≤ (r x).length
        · rw [if_neg (by rw [show (3 : Int32) = o32 3 from rfl, o_le (by omega) (by omega)]; omega)]
          simp [okS, e2, i01]
        · rw [if_pos (by rw [show (3 : Int32) = o32 3 from rfl, o_le (by omega) (by omega)]; omega)]
          simp [okS, e2, e, i01]
  · unfold lX9_canVanish_4
    dsimp only
    rw [sd_o ha, h2, Option.bind_some, if_pos (by rw [o_le (by omega) (by omega)]; omega), if_pos (i01_z _), List.take_length]
    rfl
/-- the rings when a is out of those in s -/
noncomputable def outR (r : Nat → List Nat) (a : Nat) (s : List Nat) : Nat → List Nat := fun x => if x ∈ s ∧ x ≠ 16 then rmv (r x) a else r x
noncomputable def offB (al : Nat → Bool) (a : Nat) : Nat → Bool := fun x => if x = a then false else al x
noncomputable def frT (m m' : Mem) : Prop := ∀ c j, ¬ (c = 138 ∧ 12 ≤ j ∧ j < 812) → m' c j = m c j
theorem frT_of {m m' : Mem} (h : frR m m') : frT m m' := fun c j hn => h c j (fun z => by obtain ⟨z1, b, z2, z3, z4⟩ := z; exact hn ⟨z1, by omega, by omega⟩)
theorem vanishes_s {m : Mem} {r : Nat → List Nat} {al : Nat → Bool} {a : Nat} (ha : a < 16) (hs : RS m r al) (hg : Gr r al) (ala : al a = true) : ∃ m', fX9_vanishes (o32 a) m = some (mput m' 138 9 (m 138 9 + 1)) ∧ RS m' (outR r a (r a)) (offB al a) ∧ frT m m' ∧ (∀ b, b < 16 → b ≠ a → ∀ f, f < 5 → m' 138 (12 + 50 * b + f) = m 138 (12 + 50 * b + f)) := by
  have sa := (hs a ha).2 ala
  have la := sa.1
  have irr : a ∉ r a := fun z => ((hg.1 a ha ala a z).2 (by omega)).2.1 rfl
  unfold fX9_vanishes
  have key := lp_ix (body := lX9_vanishes_2 (o32 a)) (fun i s => s.1 = o32 i ∧ RS s.2 (outR r a ((r a).take i)) al ∧ frR m s.2) (fun e => ∃ m', e = mput m' 138 9 (m 138 9 + 1) ∧ RS m' (outR r a (r a)) (offB al a) ∧ frT m m' ∧ (∀ b, b < 16 → b ≠ a → ∀ f, f < 5 → m' 138 (12 + 50 * b + f) = m 138 (12 + 50 * b + f))) (r a).length 0 (0, m) fu ⟨rfl, by
      intro b hb
      have e : outR r a ((r a).take 0) b = r b := by unfold outR; simp
      rw [e]
      exact hs b hb, frR_rf⟩ (fun j s _ hj hI => ?_) (fun s hI => ?_) (lt_fu (by omega))
  · obtain ⟨e, e1, m', e2, e3⟩ := key
    exact ⟨m', by rw [← e2]; exact e1, e3⟩
  · obtain ⟨i1, i2, i3⟩ := hI
    have hj : j < (r a).length := by omega
    have oa : outR r a ((r a).take j) a = r a := by
      unfold outR
      rw [if_neg (fun z => irr (List.mem_of_mem_take z.1))]
    have sj := (i2 a ha).2 ala
    rw [oa] at sj
    unfold lX9_vanishes_2
    rw [i1, sd_o ha, sj.2.1, Option.bind_some, if_neg (by rw [o_le (by omega) (by omega)]; omega), rg_o ha (by omega), sj.2.2.2 j hj, Option.bind_some, o_s]
    have px := hg.1 a ha ala _ (List.getElem_mem hj)
    have cx : (r a)[j] ≠ 16 → (r a)[j] ∉ (r a).take j := fun h z => by
      obtain ⟨k, hk, e⟩ := List.getElem_of_mem z
      have hk2 : k < j := by rw [List.length_take] at hk; omega
      rw [List.getElem_take] at e
      have := count_two (hg.2.1 a ha ala _ h) (by omega) hj e rfl
      omega
    have tk := tk1 hj
    generalize (r a)[j] = x at px cx tk
    by_cases e : x = 16
    · rw [if_pos ((e16 px.1).mpr e)]
      refine ⟨_, rfl, rfl, ?_, i3⟩
      have e2 : outR r a ((r a).take (j + 1)) = outR r a ((r a).take j) := by
        funext y
        unfold outR
        rw [tk]
        simp only [List.mem_append, List.mem_singleton, e]
        by_cases hy : y = 16
        · simp [hy]
        · simp [hy]
      rw [e2]
      exact i2
    · have hx : x < 16 := by omega
      have px2 := px.2 e
      have ox : outR r a ((r a).take j) x = r x := by
        unfold outR
        rw [if_neg (fun z => cx e z.1)]
      have sx := (i2 x hx).2 px2.1
      rw [ox] at sx
      rw [if_neg (fun z => e ((e16 px.1).mp z)), placeIn_s hx (by omega) sx, Option.bind_some]
      obtain ⟨m', e1, s1, o1⟩ := shutsP hx sx px2.2.2
      rw [e1, Option.bind_some]
      refine ⟨_, rfl, rfl, ?_, frR_tr i3 (frR_of hx o1)⟩
      have e2 : outR r a ((r a).take (j + 1)) = setR (outR r a ((r a).take j)) x (rmv (r x) a) := by
        funext y
        unfold outR setR
        rw [tk]
        simp only [List.mem_append, List.mem_singleton]
        by_cases hy : y = x
        · rw [hy, if_pos ⟨Or.inr rfl, e⟩, if_pos rfl]
        · simp [hy]
      rw [e2]
      exact RS_set hx i2 o1 s1
  · obtain ⟨i1, i2, i3⟩ := hI
    rw [Nat.zero_add] at i1 i2
    rw [List.take_length] at i2
    have oa : outR r a (r a) a = r a := by
      unfold outR
      rw [if_neg (fun z => irr z.1)]
    have sj := (i2 a ha).2 ala
    rw [oa] at sj
    unfold lX9_vanishes_2
    rw [i1, sd_o ha, sj.2.1, Option.bind_some, if_pos (by rw [o_le (by omega) (by omega)]; omega), show fX9_tells (o32 a) 0 0 s.2 = _ from tl_o (f := 0) ha (by omega), Option.bind_some]
    have e9 : mput s.2 138 (12 + 50 * a + 0) 0 138 9 = m 138 9 := by
      rw [mput_get, if_neg (by omega)]
      exact i3 138 9 (fun z => by obtain ⟨_, b, _, h, _⟩ := z; omega)
    refine ⟨_, rfl, mput s.2 138 (12 + 50 * a + 0) 0, by rw [e9], fun b hb => ⟨?_, fun hab => ?_⟩, ?_, ?_⟩
    · rw [mput_get]
      by_cases e : b = a
      · rw [if_pos (by omega)]
        unfold offB
        rw [if_pos e]
        rfl
      · rw [if_neg (by omega), (i2 b hb).1]
        unfold offB
        rw [if_neg e]
    · have hba : b ≠ a := fun z => by unfold offB at hab; rw [if_pos z] at hab; cases hab
      have hab : al b = true := by unfold offB at hab; rw [if_neg hba] at hab; exact hab
      obtain ⟨q1, q2, q3, q4⟩ := (i2 b hb).2 hab
      refine ⟨q1, ?_, q3, fun k hk => ?_⟩
      · rw [mput_get, if_neg (by omega)]; exact q2
      · rw [mput_get, if_neg (by omega)]; exact q4 k hk
    · intro c j hn
      rw [mput_get, if_neg (by omega)]
      exact frT_of i3 c j hn
    · intro b hb hba f hf
      rw [mput_get, if_neg (by omega)]
      exact i3 138 _ (fun z => by obtain ⟨_, b', hb', h1, h2⟩ := z; omega)
