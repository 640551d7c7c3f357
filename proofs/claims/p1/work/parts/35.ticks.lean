theorem jrun_mono {cs : Nat → Option (List Int32)} {jc : Nat → List Value → List jE → Option jR} {nL : Nat} {ret : Option FieldType} {tab : Nat → Option jI} (k : Nat) : ∀ (f : Nat) (c : jC) (r : jR), jrun cs jc nL ret tab f c = some r → jrun cs jc nL ret tab (f + k) c = some r
  | 0, _, _, h => by cases h
  | f + 1, c, r, h => by
    rw [Nat.succ_add]
    have h : (match jstep cs jc nL ret tab c with
      | none => none
      | some (.inl c') => jrun cs jc nL ret tab f c'
      | some (.inr r) => some r) = some r := h
    show (match jstep cs jc nL ret tab c with
      | none => none
      | some (.inl c') => jrun cs jc nL ret tab (f + k) c'
      | some (.inr r) => some r) = some r
    cases hs : jstep cs jc nL ret tab c with
    | none => rw [hs] at h; cases h
    | some o =>
      rw [hs] at h
      cases o with
      | inl c' => exact jrun_mono k f c' r h
      | inr r' => exact h
def aOR_d : DecidableEq (Option aR) := by
  letI h : DecidableEq aR := aR_d
  exact inferInstance
def hpT (h : List aE) (fs : List aV) (p : aI) : List aE := h.set 1 (.inl (6, fs.set 10 (.inl p)))
def hpM (h : List aE) (F : List aI) : List aE := h.set 138 (.inr (.inl (0, F.set 0 aT)))
def okT (ac : Nat → List aV → List aE → Option aR) (h : List aE) (fs : List aV) (p q : aI) : Bool := @decide (ac 90 [aref 1] (hpT h fs p) = some (none, hpT h fs q)) (aOR_d _ _)
def okM (ac : Nat → List aV → List aE → Option aR) (h : List aE) (F : List aI) : Bool := @decide (ac 220 [aref 137] (hpM h F) = some (none, hpM h F)) (aOR_d _ _)
theorem hp_get {h1 : List aE} {fs : List aV} {X0 : aV} (e1 : h1[1]? = some (.inl (6, fs))) (e2 : fs[10]? = some X0) {p : aI} {h : List jE} (hh : jF2 gE (hpT h1 fs p) h) : ∃ ws x, h[1]? = some (.inl (6, ws)) ∧ gI p x ∧ ∀ p', gI p' x → jF2 gE (hpT h1 fs p') h := by
  have hl : 1 < h1.length := (List.getElem?_eq_some_iff.mp e1).1
  have hl2 : 10 < fs.length := (List.getElem?_eq_some_iff.mp e2).1
  obtain ⟨y, y1, y2⟩ := f2_get hh (i := 1) (a := .inl (6, fs.set 10 (.inl p))) (by unfold hpT; rw [List.getElem?_set_self hl])
  match y, y2 with
  | .inl (c, ws), y2 =>
    obtain ⟨z1, z2⟩ := y2
    have z1 : 6 = c := z1
    subst z1
    obtain ⟨x, x1, x2⟩ := f2_get z2 (i := 10) (a := .inl p) (by
      show (fs.set 10 (.inl p))[10]? = _
      rw [List.getElem?_set_self hl2])
    match x, x2 with
    | .int x, x2 =>
      refine ⟨ws, x, y1, x2, fun p' hp' => ?_⟩
      have z3 : jF2 gV ((fs.set 10 (.inl p)).set 10 (.inl p')) ws := f2_reset z2 x1 (show gV (.inl p') (.int x) from hp')
      rw [List.set_set] at z3
      have z4 : jF2 gE ((hpT h1 fs p).set 1 (.inl (6, fs.set 10 (.inl p')))) h := f2_reset hh y1 (show gE (.inl (6, fs.set 10 (.inl p'))) (.inl (6, ws)) from ⟨rfl, z3⟩)
      unfold hpT at z4
      rw [List.set_set] at z4
      exact z4
theorem T_turn {jc : Nat → List Value → List jE → Option jR} {ac : Nat → List aV → List aE → Option aR} (hc : gCall ac jc) {h1 : List aE} {fs : List aV} {X0 : aV} (e1 : h1[1]? = some (.inl (6, fs))) (e2 : fs[10]? = some X0) (k1 : okT ac h1 fs (0, 9997) (1, 9998) = true) (k2 : okT ac h1 fs (9998, 9998) (9999, 9999) = true) (k3 : okT ac h1 fs (9999, 9999) (9999, 9999) = true) {h : List jE} (hh : jF2 gE (hpT h1 fs (0, 9999)) h) : ∃ h', jc 90 [.ref 1] h = some (none, h') ∧ jF2 gE (hpT h1 fs (0, 9999)) h' := by
  obtain ⟨ws, x, x1, x2, x3⟩ := hp_get e1 e2 hh
  have go : ∀ p q : aI, okT ac h1 fs p q = true → gI p x → (∀ y, gI q y → gI (0, 9999) y) → ∃ h', jc 90 [.ref 1] h = some (none, h') ∧ jF2 gE (hpT h1 fs (0, 9999)) h' := by
    intro p q hk hp hq
    have hk := @of_decide_eq_true _ (aOR_d _ _) hk
    obtain ⟨r, r1, r2⟩ := hc _ _ _ _ [.ref 1] h hk ⟨⟨⟨_, Or.inl rfl⟩, rfl⟩, trivial⟩ (x3 p hp)
    obtain ⟨ra, rb⟩ := r
    obtain ⟨r2, r3⟩ := r2
    have r2 : ra = none := r2
    subst r2
    obtain ⟨ws', x', y1, y2, y3⟩ := hp_get e1 e2 r3
    exact ⟨rb, r1, y3 _ (hq x' y2)⟩
  have a := x2.1
  have b := x2.2
  have a : (0 : Int) ≤ x.toInt := a
  have b : x.toInt ≤ 9999 := b
  have wd : ∀ (l u : Int), 0 ≤ l → u ≤ 9999 → ∀ y, gI (l, u) y → gI (0, 9999) y := fun l u hl hu y hy => by
    have c1 : l ≤ y.toInt := hy.1
    have c2 : y.toInt ≤ u := hy.2
    exact ⟨by show (0 : Int) ≤ y.toInt; omega, by show y.toInt ≤ 9999; omega⟩
  by_cases c1 : x.toInt ≤ 9997
  · exact go _ _ k1 ⟨a, c1⟩ (wd _ _ (by omega) (by omega))
  · by_cases c2 : x.toInt = 9998
    · exact go _ _ k2 ⟨by show (9998 : Int) ≤ x.toInt; omega, by show x.toInt ≤ 9998; omega⟩ (wd _ _ (by omega) (by omega))
    · exact go _ _ k3 ⟨by show (9999 : Int) ≤ x.toInt; omega, by show x.toInt ≤ 9999; omega⟩ (wd _ _ (by omega) (by omega))
noncomputable def atickM (cs : Nat → Option (List aI)) (ac : Nat → List aV → List aE → Option aR) (vs : List aV) (h : List aE) : Option aR := match vs with
  | [.inr (some (.ref o)), .inl N] => match asteps cs ac 3 (some .int) jt_X8_tick 14 (0, aargs 0 vs, [], h) with
    | some (pc, L, [], h1) => bif pc == 39 && (o == 0 && (decide (1 ≤ N.1) && (decide (N.2 ≤ 60) && decide (L = [(2, .inl (aK 0)), (0, aref 0), (1, .inl N)])))) then (match (h1[0]? : Option aE), (h1[1]? : Option aE) with
      | some (.inl (c0, .inr (some (.ref p)) :: _)), some (.inl (c1, fs)) => (match (fs[10]? : Option aV) with
        | some (.inl X) => bif c0 == 7 && (p == 1 && (c1 == 6 && (decide (0 ≤ X.1) && (decide (X.2 ≤ 9999) && (okT ac h1 fs (0, 9997) (1, 9998) && (okT ac h1 fs (9998, 9998) (9999, 9999) && okT ac h1 fs (9999, 9999) (9999, 9999))))))) then arunS cs ac 3 (some .int) jt_X8_tick 999000 57 [(2, .inl (0, 60)), (0, aref 0), (1, .inl N)] [] (hpT h1 fs (0, 9999)) else none
        | _ => none)
      | _, _ => none) else none
    | _ => none
  | _ => none
theorem g_locals3 {L : List (Nat × Value)} {A B C : aV} {i j k : Nat} (h : jF2 gL [(i, A), (j, B), (k, C)] L) : ∃ a b c, L = [(i, a), (j, b), (k, c)] ∧ gV A a ∧ gV B b ∧ gV C c := by
  obtain ⟨l1, L, rfl, g1, h⟩ := f2_cons h
  obtain ⟨l2, L, rfl, g2, h⟩ := f2_cons h
  obtain ⟨l3, L, rfl, g3, h⟩ := f2_cons h
  cases f2_nil h
  obtain ⟨x1, y1⟩ := l1
  obtain ⟨x2, y2⟩ := l2
  obtain ⟨x3, y3⟩ := l3
  obtain ⟨a1, g1⟩ := g1
  obtain ⟨a2, g2⟩ := g2
  obtain ⟨a3, g3⟩ := g3
  have a1 : i = x1 := a1
  have a2 : j = x2 := a2
  have a3 : k = x3 := a3
  subst a1
  subst a2
  subst a3
  exact ⟨y1, y2, y3, rfl, g1, g2, g3⟩
theorem atickM_ok {acs : Nat → Option (List aI)} {cs : Nat → Option (List Int32)} (hcs : ∀ (k : Nat) (l : List aI), acs k = some l → ∃ l2, cs k = some l2 ∧ jF2 gI l l2) {D : Nat} {ac : Nat → List aV → List aE → Option aR} (hc : gCall ac (jcall jmt cs jF0 D)) {va : List aV} {ha : List aE} {ra : aR} {v : List Value} {h : List jE} (he : atickM acs ac va ha = some ra) (hv : jF2 gV va v) (hh : jF2 gE ha h) : ∃ r, jcall jmt cs jF0 (D + 1) 122 v h = some r ∧ gR ra r := by
  match va, he, hv with
  | [.inr (some (.ref o)), .inl N], he, hv =>
    unfold atickM at he
    simp only [] at he
    split at he
    · rename_i pc L h1 hs
      rw [Bool.cond_eq_ite] at he
      split at he
      · rename_i hb
        simp only [Bool.and_eq_true, beq_iff_eq, decide_eq_true_eq] at hb
        obtain ⟨b1, b2, b3, b4, b5⟩ := hb
        subst b1
        subst b2
        subst b5
        split at he
        · rename_i c0 p fs0 c1 fs e1 e2
          split at he
          · rename_i X e3
            rw [Bool.cond_eq_ite] at he
            split at he
            · rename_i hb
              simp only [Bool.and_eq_true, beq_iff_eq, decide_eq_true_eq] at hb
              obtain ⟨d1, d2, d3, d4, d5, k1, k2, k3⟩ := hb
              subst d1
              subst d2
              subst d3
              obtain ⟨c1, c2, c3⟩ := g_steps (x := (0, aargs 0 [.inr (some (.ref 0)), .inl N], [], ha)) (c := (0, lv_args 0 v, [], h)) hcs hc 14 _ ⟨rfl, g_args hv 0, trivial, hh⟩ hs
              obtain ⟨pc, L, st, h2⟩ := c1
              obtain ⟨d1, d2, d3, d4'⟩ := c2
              have d1 : 39 = pc := d1
              subst d1
              cases f2_nil d3
              obtain ⟨v2, v0, v1, rfl, g2, g0, g1⟩ := g_locals3 d2
              have g0 : v0 = .ref 0 := g0.2
              subst g0
              match v2, g2, v1, g1 with
              | .int x2, g2, .int n, g1 =>
                have e4 : x2 = Int32.ofNat 0 := g_k (n := 0) (by omega) g2
                subst e4
                have n1 : N.1 ≤ n.toInt := g1.1
                have n2 : n.toInt ≤ N.2 := g1.2
                obtain ⟨y0, y1, y2⟩ := f2_get d4' e1
                obtain ⟨z0, z1, z2⟩ := f2_get d4' e2
                have hI : jF2 gE (hpT h1 fs (0, 9999)) h2 := by
                  match z0, z2 with
                  | .inl (q, ws), z2 =>
                    obtain ⟨q1, q2⟩ := z2
                    have q1 : 6 = q := q1
                    subst q1
                    obtain ⟨x, x1, x2⟩ := f2_get q2 e3
                    match x, x2 with
                    | .int x, x2 =>
                      have x3 : X.1 ≤ x.toInt := x2.1
                      have x4 : x.toInt ≤ X.2 := x2.2
                      refine f2_reset d4' z1 ⟨rfl, f2_reset q2 x1 ?_⟩
                      exact ⟨by show (0 : Int) ≤ x.toInt; omega, by show x.toInt ≤ 9999; omega⟩
                have h0 : ∀ h, jF2 gE (hpT h1 fs (0, 9999)) h → ∃ fl, h[0]? = some (.inl (7, .ref 1 :: fl)) := by
                  intro h hh
                  obtain ⟨y, y1, y2⟩ := f2_get hh (i := 0) (a := .inl (7, .inr (some (.ref 1)) :: fs0)) (by unfold hpT; rw [List.getElem?_set_ne (by omega)]; exact e1)
                  match y, y2 with
                  | .inl (q, ws), y2 =>
                    obtain ⟨q1, q2⟩ := y2
                    have q1 : 7 = q := q1
                    subst q1
                    obtain ⟨f0, fl, rfl, gf, q2⟩ := f2_cons q2
                    have gf : f0 = .ref 1 := gf.2
                    subst gf
                    exact ⟨fl, y1⟩
                obtain ⟨c', ⟨h3, r1, r2⟩, r3⟩ := jloop (cs := cs) (jc := jcall jmt cs jF0 D) (nL := 3) (ret := some .int) (tab := jt_X8_tick) 8 n.toInt.toNat (fun i c => ∃ h', c = (39, [(2, .int (Int32.ofNat i)), (0, .ref 0), (1, .int n)], [], h') ∧ jF2 gE (hpT h1 fs (0, 9999)) h') (fun i hi c hcc => by
                  obtain ⟨h', rfl, hh'⟩ := hcc
                  obtain ⟨fl, f1⟩ := h0 h' hh'
                  obtain ⟨ws, x, w1, -, -⟩ := hp_get e2 e3 hh'
                  obtain ⟨h'', t1, t2⟩ := T_turn hc e2 e3 k1 k2 k3 hh'
                  exact ⟨_, ⟨h'', rfl, t2⟩, fun f => t_turn f1 w1 t1 (by omega) (by omega) f⟩) n.toInt.toNat 0 (Nat.zero_add _) _ ⟨h2, rfl, hI⟩
                subst r1
                rw [arunS_eq _ rfl] at he
                obtain ⟨r, s1, s2⟩ := g_run hcs hc 999000 (57, [(2, .inl (0, 60)), (0, aref 0), (1, .inl N)], [], hpT h1 fs (0, 9999)) (57, [(2, .int (Int32.ofNat n.toInt.toNat)), (0, .ref 0), (1, .int n)], [], h3) ra ⟨rfl, ⟨⟨rfl, by
                  show gI (0, 60) (Int32.ofNat n.toInt.toNat)
                  have := ti (k := n.toInt.toNat) (by omega)
                  exact ⟨by show (0 : Int) ≤ _; omega, by show _ ≤ (60 : Int); omega⟩⟩, ⟨rfl, ⟨⟨_, Or.inl rfl⟩, rfl⟩⟩, ⟨rfl, g1⟩, trivial⟩, trivial, r2⟩ he
                refine ⟨r, ?_, s2⟩
                have hlen : v.length = 2 := by rw [← f2_len hv]; rfl
                rw [jcall_at jmt_X8_tick hlen (by rw [g_sl hv]; exact Nat.le_of_ble_eq_true rfl)]
                have t1 := jrun_mono (983 - 8 * n.toInt.toNat) _ _ _ s1
                have e0 : jF0 = 14 + ((999000 + (983 - 8 * n.toInt.toNat) + 1 + 1 + 1) + 8 * n.toInt.toNat) := by
                  have : jF0 = 1000000 := rfl
                  omega
                have u1 := jr1 (cs := cs) (jc := jcall jmt cs jF0 D) (nL := 3) (ret := some .int) (tab := jt_X8_tick) (c := (39, [(2, .int (Int32.ofNat n.toInt.toNat)), (0, .ref 0), (1, .int n)], [], h3)) (c' := (40, [(2, .int (Int32.ofNat n.toInt.toNat)), (0, .ref 0), (1, .int n)], [.int (Int32.ofNat n.toInt.toNat)], h3)) rfl rfl (999000 + (983 - 8 * n.toInt.toNat) + 1 + 1)
                have u2 := jr1 (cs := cs) (jc := jcall jmt cs jF0 D) (nL := 3) (ret := some .int) (tab := jt_X8_tick) (c := (40, [(2, .int (Int32.ofNat n.toInt.toNat)), (0, .ref 0), (1, .int n)], [.int (Int32.ofNat n.toInt.toNat)], h3)) (c' := (41, [(2, .int (Int32.ofNat n.toInt.toNat)), (0, .ref 0), (1, .int n)], [.int n, .int (Int32.ofNat n.toInt.toNat)], h3)) rfl rfl (999000 + (983 - 8 * n.toInt.toNat) + 1)
                have u3 := jr1 (cs := cs) (jc := jcall jmt cs jF0 D) (nL := 3) (ret := some .int) (tab := jt_X8_tick) (c := (41, [(2, .int (Int32.ofNat n.toInt.toNat)), (0, .ref 0), (1, .int n)], [.int n, .int (Int32.ofNat n.toInt.toNat)], h3)) (c' := (57, [(2, .int (Int32.ofNat n.toInt.toNat)), (0, .ref 0), (1, .int n)], [], h3)) rfl (by
                  show (bif jcond .ge (Int32.ofNat n.toInt.toNat) n then jgo 57 [(2, .int (Int32.ofNat n.toInt.toNat)), (0, .ref 0), (1, .int n)] [] h3 else jgo 44 [(2, .int (Int32.ofNat n.toInt.toNat)), (0, .ref 0), (1, .int n)] [] h3) = _
                  rw [tge2 (by omega) (by omega)]
                  rfl) (999000 + (983 - 8 * n.toInt.toNat))
                have key := (c3 ((999000 + (983 - 8 * n.toInt.toNat) + 1 + 1 + 1) + 8 * n.toInt.toNat)).trans ((r3 (999000 + (983 - 8 * n.toInt.toNat) + 1 + 1 + 1)).trans (u1.trans (u2.trans (u3.trans t1))))
                rw [← e0] at key
                exact key
            · cases he
          · cases he
        · cases he
      · cases he
    · cases he
theorem M_get {h1 : List aE} {F : Nat × List aI} (e1 : h1[138]? = some (.inr (.inl F))) (e0 : F.1 = 0) {h : List jE} (hh : jF2 gE h1 h) : jF2 gE (hpM h1 F.2) h := by
  obtain ⟨f, f1, f2⟩ := g_cell hh e1
  rw [e0] at f1
  refine f2_reset hh f1 (show gE (.inr (.inl (0, F.2.set 0 aT))) (.inr (.inl (0, f))) from ⟨rfl, ?_⟩)
  cases f with
  | nil =>
    cases hF : F.2 with
    | nil => trivial
    | cons a b => rw [hF] at f2; cases f2
  | cons x f => exact f2_reset f2 (i := 0) (b := x) rfl (gI_T x)
noncomputable def amtkM (cs : Nat → Option (List aI)) (ac : Nat → List aV → List aE → Option aR) (vs : List aV) (h : List aE) : Option aR := match vs with
  | [.inr (some (.ref o)), .inl N] => match asteps cs ac 3 (some .int) jt_X9_tick 15 (0, aargs 0 vs, [], h) with
    | some (pc, L, [], h1) => bif pc == 40 && (o == 137 && (decide (1 ≤ N.1) && (decide (N.2 ≤ 60) && decide (L = [(2, .inl (aK 0)), (0, aref 137), (1, .inl N)])))) then (match (h1[137]? : Option aE), (h1[138]? : Option aE) with
      | some (.inl (c0, fs)), some (.inr (.inl F)) => bif c0 == 8 && (F.1 == 0 && okM ac h1 F.2) then arunS cs ac 3 (some .int) jt_X9_tick 999000 55 [(2, .inl (0, 60)), (0, aref 137), (1, .inl N)] [] (hpM h1 F.2) else none
      | _, _ => none) else none
    | _ => none
  | _ => none
theorem amtkM_ok {acs : Nat → Option (List aI)} {cs : Nat → Option (List Int32)} (hcs : ∀ (k : Nat) (l : List aI), acs k = some l → ∃ l2, cs k = some l2 ∧ jF2 gI l l2) {D : Nat} {ac : Nat → List aV → List aE → Option aR} (hc : gCall ac (jcall jmt cs jF0 D)) {va : List aV} {ha : List aE} {ra : aR} {v : List Value} {h : List jE} (he : amtkM acs ac va ha = some ra) (hv : jF2 gV va v) (hh : jF2 gE ha h) : ∃ r, jcall jmt cs jF0 (D + 1) 221 v h = some r ∧ gR ra r := by
  match va, he, hv with
  | [.inr (some (.ref o)), .inl N], he, hv =>
    unfold amtkM at he
    simp only [] at he
    split at he
    · rename_i pc L h1 hs
      rw [Bool.cond_eq_ite] at he
      split at he
      · rename_i hb
        simp only [Bool.and_eq_true, beq_iff_eq, decide_eq_true_eq] at hb
        obtain ⟨b1, b2, b3, b4, b5⟩ := hb
        subst b1
        subst b2
        subst b5
        split at he
        · rename_i c0 fs F e1 e2
          rw [Bool.cond_eq_ite] at he
          split at he
          · rename_i hb
            simp only [Bool.and_eq_true, beq_iff_eq] at hb
            obtain ⟨d1, d2, k1⟩ := hb
            subst d1
            obtain ⟨c1, c2, c3⟩ := g_steps (x := (0, aargs 0 [.inr (some (.ref 137)), .inl N], [], ha)) (c := (0, lv_args 0 v, [], h)) hcs hc 15 _ ⟨rfl, g_args hv 0, trivial, hh⟩ hs
            obtain ⟨pc, L, st, h2⟩ := c1
            obtain ⟨d1, d2', d3, d4'⟩ := c2
            have d1 : 40 = pc := d1
            subst d1
            cases f2_nil d3
            obtain ⟨v2, v0, v1, rfl, g2, g0, g1⟩ := g_locals3 d2'
            have g0 : v0 = .ref 137 := g0.2
            subst g0
            match v2, g2, v1, g1 with
            | .int x2, g2, .int n, g1 =>
              have e4 : x2 = Int32.ofNat 0 := g_k (n := 0) (by omega) g2
              subst e4
              have n1 : N.1 ≤ n.toInt := g1.1
              have n2 : n.toInt ≤ N.2 := g1.2
              have hI : jF2 gE (hpM h1 F.2) h2 := M_get e2 d2 d4'
              have h0 : ∀ h, jF2 gE (hpM h1 F.2) h → ∃ fl, h[137]? = some (.inl (8, fl)) := by
                intro h hh
                obtain ⟨y, y1, y2⟩ := f2_get hh (i := 137) (a := .inl (8, fs)) (by unfold hpM; rw [List.getElem?_set_ne (by omega)]; exact e1)
                match y, y2 with
                | .inl (q, ws), y2 =>
                  obtain ⟨q1, q2⟩ := y2
                  have q1 : 8 = q := q1
                  subst q1
                  exact ⟨ws, y1⟩
              have hk := @of_decide_eq_true _ (aOR_d _ _) k1
              obtain ⟨c', ⟨h3, r1, r2⟩, r3⟩ := jloop (cs := cs) (jc := jcall jmt cs jF0 D) (nL := 3) (ret := some .int) (tab := jt_X9_tick) 7 n.toInt.toNat (fun i c => ∃ h', c = (40, [(2, .int (Int32.ofNat i)), (0, .ref 137), (1, .int n)], [], h') ∧ jF2 gE (hpM h1 F.2) h') (fun i hi c hcc => by
                obtain ⟨h', rfl, hh'⟩ := hcc
                obtain ⟨fl, f1⟩ := h0 h' hh'
                obtain ⟨r, w1, w2⟩ := hc _ _ _ _ [.ref 137] h' hk ⟨⟨⟨_, Or.inl rfl⟩, rfl⟩, trivial⟩ hh'
                obtain ⟨rx, ry⟩ := r
                obtain ⟨w2, w3⟩ := w2
                have w2 : rx = none := w2
                subst w2
                exact ⟨_, ⟨ry, rfl, w3⟩, fun f => m_turn f1 w1 (by omega) (by omega) f⟩) n.toInt.toNat 0 (Nat.zero_add _) _ ⟨h2, rfl, hI⟩
              subst r1
              rw [arunS_eq _ rfl] at he
              obtain ⟨r, s1, s2⟩ := g_run hcs hc 999000 (55, [(2, .inl (0, 60)), (0, aref 137), (1, .inl N)], [], hpM h1 F.2) (55, [(2, .int (Int32.ofNat n.toInt.toNat)), (0, .ref 137), (1, .int n)], [], h3) ra ⟨rfl, ⟨⟨rfl, by
                show gI (0, 60) (Int32.ofNat n.toInt.toNat)
                have := ti (k := n.toInt.toNat) (by omega)
                exact ⟨by show (0 : Int) ≤ _; omega, by show _ ≤ (60 : Int); omega⟩⟩, ⟨rfl, ⟨⟨_, Or.inl rfl⟩, rfl⟩⟩, ⟨rfl, g1⟩, trivial⟩, trivial, r2⟩ he
              refine ⟨r, ?_, s2⟩
              have hlen : v.length = 2 := by rw [← f2_len hv]; rfl
              rw [jcall_at jmt_X9_tick hlen (by rw [g_sl hv]; exact Nat.le_of_ble_eq_true rfl)]
              have t1 := jrun_mono (982 - 7 * n.toInt.toNat) _ _ _ s1
              have e0 : jF0 = 15 + ((999000 + (982 - 7 * n.toInt.toNat) + 1 + 1 + 1) + 7 * n.toInt.toNat) := by
                have : jF0 = 1000000 := rfl
                omega
              have u1 := jr1 (cs := cs) (jc := jcall jmt cs jF0 D) (nL := 3) (ret := some .int) (tab := jt_X9_tick) (c := (40, [(2, .int (Int32.ofNat n.toInt.toNat)), (0, .ref 137), (1, .int n)], [], h3)) (c' := (41, [(2, .int (Int32.ofNat n.toInt.toNat)), (0, .ref 137), (1, .int n)], [.int (Int32.ofNat n.toInt.toNat)], h3)) rfl rfl (999000 + (982 - 7 * n.toInt.toNat) + 1 + 1)
              have u2 := jr1 (cs := cs) (jc := jcall jmt cs jF0 D) (nL := 3) (ret := some .int) (tab := jt_X9_tick) (c := (41, [(2, .int (Int32.ofNat n.toInt.toNat)), (0, .ref 137), (1, .int n)], [.int (Int32.ofNat n.toInt.toNat)], h3)) (c' := (42, [(2, .int (Int32.ofNat n.toInt.toNat)), (0, .ref 137), (1, .int n)], [.int n, .int (Int32.ofNat n.toInt.toNat)], h3)) rfl rfl (999000 + (982 - 7 * n.toInt.toNat) + 1)
              have u3 := jr1 (cs := cs) (jc := jcall jmt cs jF0 D) (nL := 3) (ret := some .int) (tab := jt_X9_tick) (c := (42, [(2, .int (Int32.ofNat n.toInt.toNat)), (0, .ref 137), (1, .int n)], [.int n, .int (Int32.ofNat n.toInt.toNat)], h3)) (c' := (55, [(2, .int (Int32.ofNat n.toInt.toNat)), (0, .ref 137), (1, .int n)], [], h3)) rfl (by
                show (bif jcond .ge (Int32.ofNat n.toInt.toNat) n then jgo 55 [(2, .int (Int32.ofNat n.toInt.toNat)), (0, .ref 137), (1, .int n)] [] h3 else jgo 45 [(2, .int (Int32.ofNat n.toInt.toNat)), (0, .ref 137), (1, .int n)] [] h3) = _
                rw [tge2 (by omega) (by omega)]
                rfl) (999000 + (982 - 7 * n.toInt.toNat))
              have key := (c3 ((999000 + (982 - 7 * n.toInt.toNat) + 1 + 1 + 1) + 7 * n.toInt.toNat)).trans ((r3 (999000 + (982 - 7 * n.toInt.toNat) + 1 + 1 + 1)).trans (u1.trans (u2.trans (u3.trans t1))))
              rw [← e0] at key
              exact key
          · cases he
        · cases he
      · cases he
    · cases he
