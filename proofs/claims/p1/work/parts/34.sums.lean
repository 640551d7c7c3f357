/-! THE RUN WITH WHAT WAS DONE BY HAND PUT IN -/
noncomputable def afoamM (cs : Nat → Option (List aI)) (ac : Nat → List aV → List aE → Option aR) (vs : List aV) (h : List aE) : Option aR := match vs with
  | [.inr (some (.ref o)), .inl w, .inl g, .inl u] => match asteps cs ac 9 (some .int) jt_X9_foam 17 (0, aargs 0 vs, [], h) with
    | some (pc, L, [], h1) => bif pc == 39 && (o == 137 && decide (L = [(4, .inl (aK 12)), (0, aref 137), (1, .inl w), (2, .inl g), (3, .inl u)])) then (match (h1[137]? : Option aE), (h1[138]? : Option aE) with
      | some (.inl (c, .inr (some (.ref p)) :: _)), some (.inr (.inl F)) => bif c == 8 && (p == 138 && (F.1 == 0 && (Nat.ble 812 F.2.length && ((F.2.drop 12).take 800).all (fun X => decide (X.1 = 0) && decide (X.2 = 0))))) then arunS cs ac 9 (some .int) jt_X9_foam 991983 39 [(4, .inl (aK 812)), (0, aref 137), (1, .inl w), (2, .inl g), (3, .inl u)] [] h1 else none
      | _, _ => none) else none
    | _ => none
  | _ => none
theorem f2_get2 {α β : Type} {R : α → β → Prop} : ∀ {as : List α} {bs : List β}, jF2 R as bs → ∀ {i : Nat} {b : β}, bs[i]? = some b → ∃ a, as[i]? = some a ∧ R a b
  | [], [], _, i, a, h => by cases h
  | x :: as, y :: bs, h, 0, a, e => by
    cases e
    exact ⟨x, rfl, h.1⟩
  | x :: as, y :: bs, h, i + 1, a, e => f2_get2 (as := as) (bs := bs) h.2 (i := i) e
  | [], b :: bs, h, _, _, _ => by cases h
  | a :: as, [], h, _, _, _ => by cases h
theorem g_zero {X : aI} {x : Int32} (h1 : X.1 = 0) (h2 : X.2 = 0) (g : gI X x) : x = 0 := by
  have a := g.1
  have b := g.2
  exact t_eq (by show x.toInt = 0; omega)
theorem g_k {n : Nat} (hn : n < 2147483648) {x : Int32} (g : gI (aK n) x) : x = Int32.ofNat n := by
  have a : (n : Int) ≤ x.toInt := g.1
  have b : x.toInt ≤ (n : Int) := g.2
  exact t_eq (by rw [ti hn]; omega)
theorem afoamM_ok {acs : Nat → Option (List aI)} {cs : Nat → Option (List Int32)} (hcs : ∀ (k : Nat) (l : List aI), acs k = some l → ∃ l2, cs k = some l2 ∧ jF2 gI l l2) {D : Nat} {ac : Nat → List aV → List aE → Option aR} (hc : gCall ac (jcall jmt cs jF0 D)) {va : List aV} {ha : List aE} {ra : aR} {v : List Value} {h : List jE} (he : afoamM acs ac va ha = some ra) (hv : jF2 gV va v) (hh : jF2 gE ha h) : ∃ r, jcall jmt cs jF0 (D + 1) 161 v h = some r ∧ gR ra r := by
  match va, he, hv with
  | [.inr (some (.ref o)), .inl w, .inl g, .inl u], he, hv =>
    unfold afoamM at he
    simp only [] at he
    split at he
    · rename_i pc L h1 hs
      rw [Bool.cond_eq_ite] at he
      split at he
      · rename_i hb
        simp only [Bool.and_eq_true, beq_iff_eq, decide_eq_true_eq] at hb
        obtain ⟨b1, b2, b3⟩ := hb
        subst b1
        subst b2
        subst b3
        split at he
        · rename_i cc p fs F e1 e2
          rw [Bool.cond_eq_ite] at he
          split at he
          · rename_i hb
            simp only [Bool.and_eq_true, beq_iff_eq] at hb
            obtain ⟨b1, b2, b3, b4, b5⟩ := hb
            subst b1
            subst b2
            obtain ⟨c1, c2, c3⟩ := g_steps (x := (0, aargs 0 [.inr (some (.ref 137)), .inl w, .inl g, .inl u], [], ha)) (c := (0, lv_args 0 v, [], h)) hcs hc 17 _ ⟨rfl, g_args hv 0, trivial, hh⟩ hs
            obtain ⟨pc, L, st, h2⟩ := c1
            obtain ⟨d1, d2, d3, d4⟩ := c2
            have d1 : 39 = pc := d1
            subst d1
            cases f2_nil d3
            obtain ⟨l4, L, rfl, g4, d2⟩ := f2_cons d2
            obtain ⟨l0, L, rfl, g0, d2⟩ := f2_cons d2
            obtain ⟨l1, L, rfl, g1, d2⟩ := f2_cons d2
            obtain ⟨l2, L, rfl, g2, d2⟩ := f2_cons d2
            obtain ⟨l3, L, rfl, g3, d2⟩ := f2_cons d2
            cases f2_nil d2
            obtain ⟨i4, v4⟩ := l4
            obtain ⟨i0, v0⟩ := l0
            obtain ⟨i1, v1⟩ := l1
            obtain ⟨i2, v2⟩ := l2
            obtain ⟨i3, v3⟩ := l3
            obtain ⟨a4, g4⟩ := g4
            obtain ⟨a0, g0⟩ := g0
            obtain ⟨a1, g1⟩ := g1
            obtain ⟨a2, g2⟩ := g2
            obtain ⟨a3, g3⟩ := g3
            have a4 : 4 = i4 := a4
            have a0 : 0 = i0 := a0
            have a1 : 1 = i1 := a1
            have a2 : 2 = i2 := a2
            have a3 : 3 = i3 := a3
            subst a4
            subst a0
            subst a1
            subst a2
            subst a3
            have g0 : v0 = .ref 137 := g0.2
            subst g0
            match v4, g4, v1, g1, v2, g2, v3, g3 with
            | .int x4, g4, .int x1, g1, .int x2, g2, .int x3, g3 =>
              have e4 : x4 = Int32.ofNat 12 := g_k (n := 12) (by omega) g4
              subst e4
              obtain ⟨y, y1, y2⟩ := f2_get d4 e1
              obtain ⟨arr, r1, r2⟩ := g_cell d4 e2
              match y, y2 with
              | .inl (n8, fl), y2 =>
                obtain ⟨y2, y3⟩ := y2
                have y2 : 8 = n8 := y2
                subst y2
                obtain ⟨f0, fl, rfl, gf, y3⟩ := f2_cons y3
                have gf : f0 = .ref 138 := gf.2
                subst gf
                rw [b3] at r1
                have hz : ∀ k, 12 ≤ k → k < 812 → arr[k]? = some 0 := by
                  intro k k1 k2
                  have hl : k < arr.length := by
                    have := Nat.le_of_ble_eq_true b4
                    rw [← f2_len r2]
                    omega
                  obtain ⟨X, X1, X2⟩ := f2_get2 r2 (List.getElem?_eq_getElem hl)
                  have hm : X ∈ (F.2.drop 12).take 800 := by
                    apply List.mem_of_getElem? (i := k - 12)
                    rw [List.getElem?_take_of_lt (by omega), List.getElem?_drop]
                    rw [show 12 + (k - 12) = k by omega]
                    exact X1
                  have := List.all_eq_true.mp b5 X hm
                  rw [Bool.and_eq_true, decide_eq_true_eq, decide_eq_true_eq] at this
                  rw [List.getElem?_eq_getElem hl, g_zero this.1 this.2 X2]
                rw [arunS_eq _ rfl] at he
                obtain ⟨r, s1, s2⟩ := g_run hcs hc 991983 (39, [(4, .inl (aK 812)), (0, aref 137), (1, .inl w), (2, .inl g), (3, .inl u)], [], h1) (39, [(4, .int (Int32.ofNat 812)), (0, .ref 137), (1, .int x1), (2, .int x2), (3, .int x3)], [], h2) ra ⟨rfl, ⟨⟨rfl, by show gI (aK 812) (Int32.ofNat 812); exact ⟨by decide, by decide⟩⟩, ⟨rfl, g0⟩, ⟨rfl, g1⟩, ⟨rfl, g2⟩, ⟨rfl, g3⟩, trivial⟩, trivial, d4⟩ he
                refine ⟨r, ?_, s2⟩
                have hlen : v.length = 4 := by rw [← f2_len hv]; rfl
                rw [jcall_at jmt_X9_foam hlen (by rw [g_sl hv]; exact Nat.le_of_ble_eq_true rfl)]
                have e0 : jF0 = 17 + (991983 + 8000) := rfl
                rw [← s1, ← z_all y1 r1 hz 991983, ← c3 (991983 + 8000), ← e0]
                rfl
          · cases he
        · cases he
      · cases he
    · cases he
/-! beside: both ways of a test -/
def aR_d : DecidableEq aR := @instDecidableEqProd _ _ inferInstance (@instDecidableEqList _ aE_d)
noncomputable def abesM (cs : Nat → Option (List aI)) (ac : Nat → List aV → List aE → Option aR) (vs : List aV) (h : List aE) : Option aR := match vs with
  | [.inr (some (.ref o)), .inl X, .inl Y] => match aeq X Y with
    | none => match arunS cs ac 3 (some .int) jt_X8_beside 999997 14 [(0, aref o), (1, .inl X), (2, .inl Y)] [] h, arunS cs ac 3 (some .int) jt_X8_beside 999997 5 [(0, aref o), (1, .inl X), (2, .inl Y)] [] h with
      | some r1, some r2 => bif @decide (r1 = r2) (aR_d r1 r2) then some r1 else none
      | _, _ => none
    | some _ => none
  | _ => none
theorem abesM_ok {acs : Nat → Option (List aI)} {cs : Nat → Option (List Int32)} (hcs : ∀ (k : Nat) (l : List aI), acs k = some l → ∃ l2, cs k = some l2 ∧ jF2 gI l l2) {D : Nat} {ac : Nat → List aV → List aE → Option aR} (hc : gCall ac (jcall jmt cs jF0 D)) {va : List aV} {ha : List aE} {ra : aR} {v : List Value} {h : List jE} (he : abesM acs ac va ha = some ra) (hv : jF2 gV va v) (hh : jF2 gE ha h) : ∃ r, jcall jmt cs jF0 (D + 1) 110 v h = some r ∧ gR ra r := by
  match va, he, hv with
  | [.inr (some (.ref o)), .inl X, .inl Y], he, hv =>
    unfold abesM at he
    simp only [] at he
    split at he
    · split at he
      · rename_i r1 r2 e1 e2
        rw [Bool.cond_eq_ite] at he
        split at he
        · rename_i hb
          have hb : r1 = r2 := @of_decide_eq_true _ (aR_d r1 r2) hb
          rw [← hb] at e2
          rw [← Option.some.inj he]
          rw [arunS_eq _ rfl] at e1 e2
          obtain ⟨v0, v, rfl, g0, hv⟩ := f2_cons hv
          obtain ⟨v1, v, rfl, g1, hv⟩ := f2_cons hv
          obtain ⟨v2, v, rfl, g2, hv⟩ := f2_cons hv
          cases f2_nil hv
          have g0 : v0 = .ref o := g0.2
          subst g0
          match v1, g1, v2, g2 with
          | .int x, g1, .int y, g2 =>
            rw [jcall_at jmt_X8_beside rfl (Nat.le_of_ble_eq_true rfl)]
            have hL : jF2 gL [(0, aref o), (1, .inl X), (2, .inl Y)] [(0, .ref o), (1, .int x), (2, .int y)] := ⟨⟨rfl, ⟨⟨_, Or.inl rfl⟩, rfl⟩⟩, ⟨rfl, g1⟩, ⟨rfl, g2⟩, trivial⟩
            obtain ⟨ra, a1, a2⟩ := g_run hcs hc 999997 (14, [(0, aref o), (1, .inl X), (2, .inl Y)], [], ha) (14, [(0, .ref o), (1, .int x), (2, .int y)], [], h) r1 ⟨rfl, hL, trivial, hh⟩ e1
            obtain ⟨rb, b1, b2⟩ := g_run hcs hc 999997 (5, [(0, aref o), (1, .inl X), (2, .inl Y)], [], ha) (5, [(0, .ref o), (1, .int x), (2, .int y)], [], h) r1 ⟨rfl, hL, trivial, hh⟩ e2
            have s1 := jr1 (cs := cs) (jc := jcall jmt cs jF0 D) (nL := 3) (ret := some .int) (tab := jt_X8_beside) (c := (0, [(0, .ref o), (1, .int x), (2, .int y)], [], h)) (c' := (1, [(0, .ref o), (1, .int x), (2, .int y)], [.int x], h)) rfl rfl (999997 + 1 + 1)
            have s2 := jr1 (cs := cs) (jc := jcall jmt cs jF0 D) (nL := 3) (ret := some .int) (tab := jt_X8_beside) (c := (1, [(0, .ref o), (1, .int x), (2, .int y)], [.int x], h)) (c' := (2, [(0, .ref o), (1, .int x), (2, .int y)], [.int y, .int x], h)) rfl rfl (999997 + 1)
            have s0 : ∀ r, jrun cs (jcall jmt cs jF0 D) 3 (some .int) jt_X8_beside (999997 + 1) (2, [(0, .ref o), (1, .int x), (2, .int y)], [.int y, .int x], h) = some r → jrun cs (jcall jmt cs jF0 D) 3 (some .int) jt_X8_beside jF0 (0, [(0, .ref o), (1, .int x), (2, .int y)], [], h) = some r := by
              intro r hr
              exact s1.trans (s2.trans hr)
            by_cases hxy : x = y
            · refine ⟨ra, s0 ra ?_, a2⟩
              refine (jr1 (c' := (14, [(0, .ref o), (1, .int x), (2, .int y)], [], h)) rfl (by
                show (bif jcond .eq x y then jgo 14 [(0, .ref o), (1, .int x), (2, .int y)] [] h else jgo 5 [(0, .ref o), (1, .int x), (2, .int y)] [] h) = _
                rw [show jcond .eq x y = true from decide_eq_true hxy]
                rfl) _).trans a1
            · refine ⟨rb, s0 rb ?_, b2⟩
              refine (jr1 (c' := (5, [(0, .ref o), (1, .int x), (2, .int y)], [], h)) rfl (by
                show (bif jcond .eq x y then jgo 14 [(0, .ref o), (1, .int x), (2, .int y)] [] h else jgo 5 [(0, .ref o), (1, .int x), (2, .int y)] [] h) = _
                rw [show jcond .eq x y = false from decide_eq_false hxy]
                rfl) _).trans b1
        · cases he
      · cases he
    · cases he
/-! tick: as many turns as asked -/
theorem f2_reset {α β : Type} {R : α → β → Prop} {as : List α} {bs : List β} (h : jF2 R as bs) {i : Nat} {b : β} (hb : bs[i]? = some b) {a' : α} (r : R a' b) : jF2 R (as.set i a') bs := by
  have := f2_set h (i := i) (a := a') (b := b) r
  rw [lset_self hb] at this
  exact this
section TK
variable {cs : Nat → Option (List Int32)} {jc : Nat → List Value → List jE → Option jR}
theorem t_turn {n : Int32} {fs ws : List Value} {h h' : List jE} (h0 : h[0]? = some (.inl (7, .ref 1 :: fs))) (h1 : h[1]? = some (.inl (6, ws))) (hcall : jc 90 [.ref 1] h = some (none, h')) {k : Nat} (k1 : k < 2147483647) (k2 : (k : Int) < n.toInt) (f : Nat) :
    jrun cs jc 3 (some .int) jt_X8_tick (f + 8) (39, [(2, .int (Int32.ofNat k)), (0, .ref 0), (1, .int n)], [], h) = jrun cs jc 3 (some .int) jt_X8_tick f (39, [(2, .int (Int32.ofNat (k + 1))), (0, .ref 0), (1, .int n)], [], h') := by
  rw [← tsucc (k := k) (by omega)]
  refine (jr1 (c' := (40, [(2, .int (Int32.ofNat k)), (0, .ref 0), (1, .int n)], [.int (Int32.ofNat k)], h)) rfl rfl _).trans ?_
  refine (jr1 (c' := (41, [(2, .int (Int32.ofNat k)), (0, .ref 0), (1, .int n)], [.int n, .int (Int32.ofNat k)], h)) rfl rfl _).trans ?_
  refine (jr1 (c' := (44, [(2, .int (Int32.ofNat k)), (0, .ref 0), (1, .int n)], [], h)) rfl (by
    show (bif jcond .ge (Int32.ofNat k) n then jgo 57 [(2, .int (Int32.ofNat k)), (0, .ref 0), (1, .int n)] [] h else jgo 44 [(2, .int (Int32.ofNat k)), (0, .ref 0), (1, .int n)] [] h) = _
    rw [tge (by omega) k2]
    rfl) _).trans ?_
  refine (jr1 (c' := (45, [(2, .int (Int32.ofNat k)), (0, .ref 0), (1, .int n)], [.ref 0], h)) rfl rfl _).trans ?_
  refine (jr1 (c' := (48, [(2, .int (Int32.ofNat k)), (0, .ref 0), (1, .int n)], [.ref 1], h)) rfl (by
    show jgetf 7 0 48 [(2, .int (Int32.ofNat k)), (0, .ref 0), (1, .int n)] [.ref 0] h = _
    unfold jgetf
    simp only [h0]
    rfl) _).trans ?_
  refine (jr1 (c' := (51, [(2, .int (Int32.ofNat k)), (0, .ref 0), (1, .int n)], [], h')) rfl (by
    show jinvV jc 90 1 6 51 [(2, .int (Int32.ofNat k)), (0, .ref 0), (1, .int n)] [.ref 1] h = _
    show (match h[1]? with
      | some (.inl o) => bif o.1 == 6 then jinv jc 90 1 51 [(2, .int (Int32.ofNat k)), (0, .ref 0), (1, .int n)] [.ref 1] h else none
      | _ => none) = _
    simp only [h1]
    show jinv jc 90 1 51 [(2, .int (Int32.ofNat k)), (0, .ref 0), (1, .int n)] [.ref 1] h = _
    unfold jinv
    rw [if_pos ⟨Nat.le_of_ble_eq_true rfl, Nat.le_of_ble_eq_true rfl⟩]
    show (match jc 90 [.ref 1] h with
      | some (some v, h') => jgo 51 _ (v :: _) h'
      | some (none, h') => jgo 51 _ _ h'
      | none => none) = _
    rw [hcall]
    rfl) _).trans ?_
  refine (jr1 (c' := (54, [(2, .int (Int32.ofNat k + Int32.ofInt 1)), (0, .ref 0), (1, .int n)], [], h')) rfl rfl _).trans ?_
  exact jr1 (c' := (39, [(2, .int (Int32.ofNat k + Int32.ofInt 1)), (0, .ref 0), (1, .int n)], [], h')) rfl rfl _
theorem m_turn {n : Int32} {fs : List Value} {h h' : List jE} (h0 : h[137]? = some (.inl (8, fs))) (hcall : jc 220 [.ref 137] h = some (none, h')) {k : Nat} (k1 : k < 2147483647) (k2 : (k : Int) < n.toInt) (f : Nat) :
    jrun cs jc 3 (some .int) jt_X9_tick (f + 7) (40, [(2, .int (Int32.ofNat k)), (0, .ref 137), (1, .int n)], [], h) = jrun cs jc 3 (some .int) jt_X9_tick f (40, [(2, .int (Int32.ofNat (k + 1))), (0, .ref 137), (1, .int n)], [], h') := by
  rw [← tsucc (k := k) (by omega)]
  refine (jr1 (c' := (41, [(2, .int (Int32.ofNat k)), (0, .ref 137), (1, .int n)], [.int (Int32.ofNat k)], h)) rfl rfl _).trans ?_
  refine (jr1 (c' := (42, [(2, .int (Int32.ofNat k)), (0, .ref 137), (1, .int n)], [.int n, .int (Int32.ofNat k)], h)) rfl rfl _).trans ?_
  refine (jr1 (c' := (45, [(2, .int (Int32.ofNat k)), (0, .ref 137), (1, .int n)], [], h)) rfl (by
    show (bif jcond .ge (Int32.ofNat k) n then jgo 55 [(2, .int (Int32.ofNat k)), (0, .ref 137), (1, .int n)] [] h else jgo 45 [(2, .int (Int32.ofNat k)), (0, .ref 137), (1, .int n)] [] h) = _
    rw [tge (by omega) k2]
    rfl) _).trans ?_
  refine (jr1 (c' := (46, [(2, .int (Int32.ofNat k)), (0, .ref 137), (1, .int n)], [.ref 137], h)) rfl rfl _).trans ?_
  refine (jr1 (c' := (49, [(2, .int (Int32.ofNat k)), (0, .ref 137), (1, .int n)], [], h')) rfl (by
    show jinvV jc 220 1 8 49 [(2, .int (Int32.ofNat k)), (0, .ref 137), (1, .int n)] [.ref 137] h = _
    show (match h[137]? with
      | some (.inl o) => bif o.1 == 8 then jinv jc 220 1 49 [(2, .int (Int32.ofNat k)), (0, .ref 137), (1, .int n)] [.ref 137] h else none
      | _ => none) = _
    simp only [h0]
    show jinv jc 220 1 49 [(2, .int (Int32.ofNat k)), (0, .ref 137), (1, .int n)] [.ref 137] h = _
    unfold jinv
    rw [if_pos ⟨Nat.le_of_ble_eq_true rfl, Nat.le_of_ble_eq_true rfl⟩]
    show (match jc 220 [.ref 137] h with
      | some (some v, h') => jgo 49 _ (v :: _) h'
      | some (none, h') => jgo 49 _ _ h'
      | none => none) = _
    rw [hcall]
    rfl) _).trans ?_
  refine (jr1 (c' := (52, [(2, .int (Int32.ofNat k + Int32.ofInt 1)), (0, .ref 137), (1, .int n)], [], h')) rfl rfl _).trans ?_
  exact jr1 (c' := (40, [(2, .int (Int32.ofNat k + Int32.ofInt 1)), (0, .ref 137), (1, .int n)], [], h')) rfl rfl _
end TK
