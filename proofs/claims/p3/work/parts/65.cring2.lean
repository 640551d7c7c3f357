/-! THE CLASS'S RINGS: WHAT CAN BE -/
theorem CS_m {k : Nat} {m : Mem} {r : Nat → List Nat} {al : Nat → Bool} {a x : Nat} (hg : Gr r al) (ha : a < 16) (ala : al a = true) (hx : x ∈ r a) : x ≤ 16 ∧ (x ≠ 16 → x < 16 ∧ al x = true ∧ x ≠ a ∧ a ∈ r x) := by
  have := hg.1 a ha ala x hx
  exact ⟨this.1, fun h => ⟨by omega, (this.2 h).1, (this.2 h).2.1, (this.2 h).2.2⟩⟩
theorem canLose_c {k : Nat} {m : Mem} {r : Nat → List Nat} {al : Nat → Bool} {x : Nat} (h : CS k m r al) (hx : x ≤ 16) (hal : x ≠ 16 → al x = true) : fX0_canLoseOne k (o32 x) m = some (i01 (okS r x)) := by
  unfold fX0_canLoseOne okS
  by_cases h16 : x = 16
  · subst h16
    rfl
  · have hx2 : x < 16 := by omega
    have g := CS_g h hx2 (hal h16)
    have h1 := g.1
    rw [if_neg (fun z => h16 ((e16 hx).mp z)), sidesOf_c hx2 g, decide_eq_false h16]
    show (if o32 (r x).length < o32 4 then some 0 else some 1) = _
    by_cases h4 : 4 ≤ (r x).length
    · rw [if_neg (by rw [o_lt (by omega) (by omega)]; omega), decide_eq_true h4]
      rfl
    · rw [if_pos (by rw [o_lt (by omega) (by omega)]; omega), decide_eq_false h4]
      rfl
theorem touch_c {k : Nat} {m : Mem} {r : Nat → List Nat} {al : Nat → Bool} {c d : Nat} (h : CS k m r al) (hc : c ≤ 16) (hd : d ≤ 16) (hca : c ≠ 16 → al c = true) (hda : d ≠ 16 → al d = true) (hcd : c ≠ d) : fX0_touch k (o32 c) (o32 d) m = some (i01 (if c = 16 then decide (16 ∈ r d) else decide (d ∈ r c))) := by
  unfold fX0_touch
  have key : ∀ b x, b < 16 → x ≤ 16 → al b = true → ((fX0_placeOf k (o32 b) (o32 x) m).bind fun q1 => (if q1 < 0 then some (0 : Int32) else some 1)) = some (i01 (decide (x ∈ r b))) := by
    intro b x hb hx hal
    have g := CS_g h hb hal
    rw [placeOf_c hb hx g, Option.bind_some]
    by_cases hm : x ∈ r b
    · rw [if_neg (fun z => (plc_neg (by have := g.1; omega)).mp z hm), decide_eq_true hm]
      rfl
    · rw [if_pos ((plc_neg (by have := g.1; omega)).mpr hm), decide_eq_false hm]
      rfl
  by_cases h16 : c = 16
  · rw [if_pos ((e16 hc).mpr h16), if_pos h16]
    exact key d 16 (by omega) (by omega) (hda (by omega))
  · rw [if_neg (fun z => h16 ((e16 hc).mp z)), if_neg h16]
    exact key c d (by omega) hd (hca h16)
theorem canTurn_c {k : Nat} {m : Mem} {r : Nat → List Nat} {al : Nat → Bool} {a b : Nat} (h : CS k m r al) (hg : Gr r al) (ha : a < 16) (hb : b < 16) (ala : al a = true) (alb : al b = true) (hab : b ∈ r a) : ∃ v : Int32, fX0_canTurn k (o32 a) (o32 b) m = some v ∧ ((v = 1 ∧ mayTurn r a b) ∨ (v = 0 ∧ ¬ mayTurn r a b)) := by
  have ga := CS_g h ha ala
  have gb := CS_g h hb alb
  have la := ga.1
  have lb := gb.1
  unfold fX0_canTurn
  rw [isWall_c h ha hb, ala, alb, decide_eq_true hab, Option.bind_some, if_neg (by decide), if_pos (o_inb ha (by omega)), o_tn (by omega), ga.2.1]
  by_cases h1 : 4 ≤ (r a).length
  · rw [if_neg (by rw [show (4 : Int32) = o32 4 from rfl, o_lt (by omega) (by omega)]; omega), if_pos (o_inb hb (by omega)), o_tn (by omega), gb.2.1]
    by_cases h2 : 4 ≤ (r b).length
    · rw [if_pos (by rw [show (4 : Int32) = o32 4 from rfl, o_le (by omega) (by omega)]; omega), ahead_c ha (by omega) ga hab, behind_c ha (by omega) ga hab, Option.bind_some, Option.bind_some]
      have hc := CS_m (k := k) (m := m) hg ha ala (prv_mem hab)
      have hd := CS_m (k := k) (m := m) hg ha ala (nxt_mem hab)
      by_cases hcd : prv (r a) b = nxt (r a) b
      · rw [if_pos (by rw [hcd])]
        exact ⟨0, rfl, .inr ⟨rfl, fun z => z.2.2.1 hcd⟩⟩
      · rw [if_neg (by rw [o_eq (by omega) (by omega)]; exact hcd), touch_c h hc.1 hd.1 (fun z => (hc.2 z).2.1) (fun z => (hd.2 z).2.1) hcd, Option.bind_some]
        by_cases h16 : prv (r a) b = 16
        · rw [if_pos h16]
          by_cases hm : 16 ∈ r (nxt (r a) b)
          · rw [decide_eq_true hm]
            exact ⟨0, rfl, .inr ⟨rfl, fun z => by have z := z.2.2.2; rw [if_pos h16] at z; exact z hm⟩⟩
          · rw [decide_eq_false hm]
            exact ⟨1, rfl, .inl ⟨rfl, h1, h2, hcd, by rw [if_pos h16]; exact hm⟩⟩
        · rw [if_neg h16]
          by_cases hm : nxt (r a) b ∈ r (prv (r a) b)
          · rw [decide_eq_true hm]
            exact ⟨0, rfl, .inr ⟨rfl, fun z => by have z := z.2.2.2; rw [if_neg h16] at z; exact z hm⟩⟩
          · rw [decide_eq_false hm]
            exact ⟨1, rfl, .inl ⟨rfl, h1, h2, hcd, by rw [if_neg h16]; exact hm⟩⟩
    · rw [if_neg (by rw [show (4 : Int32) = o32 4 from rfl, o_le (by omega) (by omega)]; omega)]
      exact ⟨0, rfl, .inr ⟨rfl, fun z => h2 z.2.1⟩⟩
  · rw [if_pos (by rw [show (4 : Int32) = o32 4 from rfl, o_lt (by omega) (by omega)]; omega)]
    exact ⟨0, rfl, .inr ⟨rfl, fun z => h1 z.1⟩⟩
theorem canVanish_c {k : Nat} {m : Mem} {r : Nat → List Nat} {al : Nat → Bool} {a : Nat} (h : CS k m r al) (hg : Gr r al) (ha : a < 16) (ala : al a = true) : fX0_canVanish k (o32 a) m = some (i01 (decide ((r a).length = 3) && mayVan r a)) := by
  have ga := CS_g h ha ala
  have la := ga.1
  have hx := fun x hx => CS_m (k := k) (m := m) (x := x) hg ha ala hx
  unfold fX0_canVanish mayVan
  rw [sidesOf_c ha ga, Option.bind_some]
  by_cases h3 : (r a).length = 3
  · rw [if_pos (by rw [h3]; rfl), decide_eq_true h3]
    obtain ⟨x, y, z, e⟩ : ∃ x y z, r a = [x, y, z] := by
      match r a, h3 with
      | [x, y, z], _ => exact ⟨x, y, z, rfl⟩
    rw [e] at ga hx
    have p0 : fX0_at k (o32 a) 0 m = some (o32 x) := at_ci (z := 0) ha ga (by simp)
    have p1 : fX0_at k (o32 a) 1 m = some (o32 y) := at_ci (z := 1) ha ga (by simp)
    have p2 : fX0_at k (o32 a) 2 m = some (o32 z) := at_ci (z := 2) ha ga (by simp)
    have hx0 := hx x (by simp)
    have hy0 := hx y (by simp)
    have hz0 := hx z (by simp)
    rw [p0, p1, p2, e]
    simp only [Option.bind_some, List.all_cons, List.all_nil, Bool.and_true, Bool.true_and]
    rw [canLose_c h hx0.1 (fun q => (hx0.2 q).2.1), canLose_c h hy0.1 (fun q => (hy0.2 q).2.1), canLose_c h hz0.1 (fun q => (hz0.2 q).2.1)]
    cases okS r x <;> cases okS r y <;> cases okS r z <;> rfl
  · rw [if_neg (by rw [show (3 : Int32) = o32 3 from rfl, o_eq (by omega) (by omega)]; exact h3), decide_eq_false h3]
    rfl
theorem canBurst_c {k : Nat} {m : Mem} {r : Nat → List Nat} {al : Nat → Bool} {a b : Nat} (h : CS k m r al) (hg : Gr r al) (ha : a < 16) (hb : b < 16) (ala : al a = true) (alb : al b = true) (hab : b ∈ r a) : fX0_canBurst k (o32 a) (o32 b) m = some (i01 (mayBur r a b)) := by
  have ga := CS_g h ha ala
  have gb := CS_g h hb alb
  have la := ga.1
  have lb := gb.1
  have hc := CS_m (k := k) (m := m) hg ha ala (prv_mem hab)
  have hd := CS_m (k := k) (m := m) hg ha ala (nxt_mem hab)
  unfold fX0_canBurst mayBur
  rw [isWall_c h ha hb, ala, alb, decide_eq_true hab, Option.bind_some, if_neg (by decide), ahead_c ha (by omega) ga hab, behind_c ha (by omega) ga hab, Option.bind_some, Option.bind_some]
  by_cases hcd : prv (r a) b = nxt (r a) b
  · rw [if_pos (by rw [hcd]), decide_eq_true hcd]
    rfl
  · rw [if_neg (by rw [o_eq (by omega) (by omega)]; exact hcd), decide_eq_false hcd, canLose_c h hc.1 (fun z => (hc.2 z).2.1), canLose_c h hd.1 (fun z => (hd.2 z).2.1), Option.bind_some, Option.bind_some]
    cases okS r (prv (r a) b) with
    | false => rfl
    | true =>
      cases okS r (nxt (r a) b) with
      | false => rfl
      | true =>
        rw [if_neg (by decide), if_neg (by decide), sidesOf_c ha ga, Option.bind_some]
        obtain ⟨e, he, q⟩ := lp_inv (body := lX0_canBurst_61 k (o32 a) (o32 b) (o32 (prv (r a) b)) (o32 (nxt (r a) b)) (o32 (r a).length) m) (fun s => ∃ i, i ≤ (r a).length ∧ s = o32 i ∧ ((r a).take i).all (okB r b (prv (r a) b) (nxt (r a) b)) = true) (fun s => 100 - s.toNatClampNeg) (fun e => e = i01 ((r a).all (okB r b (prv (r a) b) (nxt (r a) b)))) (fun s hs => by
          obtain ⟨i, hi, rfl, hn⟩ := hs
          unfold lX0_canBurst_61
          by_cases hil : i = (r a).length
          · right
            subst hil
            rw [List.take_length] at hn
            exact ⟨1, by rw [if_pos (by rw [o_le (by omega) (by omega)]; omega)], by rw [hn]; rfl⟩
          · have hi2 : i < (r a).length := by omega
            have hx := CS_m (k := k) (m := m) hg ha ala (List.getElem_mem hi2)
            rw [if_neg (by rw [o_le (by omega) (by omega)]; omega), at_ci ha ga hi2, Option.bind_some]
            have go : okB r b (prv (r a) b) (nxt (r a) b) (r a)[i] = true → ((r a).take (i + 1)).all (okB r b (prv (r a) b) (nxt (r a) b)) = true := fun z => by
              rw [tk1 hi2, List.all_append, hn, Bool.true_and, List.all_cons, z]
              rfl
            have mu : 100 - (o32 (i + 1)).toNatClampNeg < 100 - (o32 i).toNatClampNeg := by
              rw [o_tn (by omega), o_tn (by omega)]
              omega
            by_cases e1 : (r a)[i] = prv (r a) b
            · left
              exact ⟨o32 (i + 1), by rw [if_pos (by rw [e1]), o_s], ⟨i + 1, by omega, rfl, go (by unfold okB; rw [decide_eq_true e1]; rfl)⟩, mu⟩
            · rw [if_neg (by rw [o_eq (by omega) (by omega)]; exact e1)]
              by_cases e2 : (r a)[i] = nxt (r a) b
              · left
                exact ⟨o32 (i + 1), by rw [if_pos (by rw [e2]), o_s], ⟨i + 1, by omega, rfl, go (by unfold okB; rw [decide_eq_true e2, Bool.or_true]; rfl)⟩, mu⟩
              · rw [if_neg (by rw [o_eq (by omega) (by omega)]; exact e2), placeOf_c hb hx.1 gb, Option.bind_some]
                by_cases e3 : (r a)[i] ∈ r b
                · right
                  refine ⟨0, by rw [if_neg (fun z => (plc_neg (by omega)).mp z e3)], ?_⟩
                  have : (r a).all (okB r b (prv (r a) b) (nxt (r a) b)) = false := by
                    rw [List.all_eq_false]
                    refine ⟨_, List.getElem_mem hi2, ?_⟩
                    unfold okB
                    rw [decide_eq_false e1, decide_eq_false e2, decide_eq_true e3]
                    decide
                  rw [this]
                  rfl
                · left
                  refine ⟨o32 (i + 1), by rw [if_pos ((plc_neg (by omega)).mpr e3), o_s], ⟨i + 1, by omega, rfl, go ?_⟩, mu⟩
                  unfold okB
                  rw [decide_eq_false e3, Bool.not_false, Bool.or_true]) fu 0 ⟨0, by omega, rfl, by simp⟩ (lt_fu (by show 100 - _ < _; omega))
        rw [he, q]
        rfl
