/-! LOOPS BY HAND: a step, a loop, the copy of 1082 numbers, the model's zeroes -/
section JL
variable {cs : Nat → Option (List Int32)} {jc : Nat → List Value → List jE → Option jR} {nL : Nat} {ret : Option FieldType} {tab : Nat → Option jI}
theorem jr1 {c c' : jC} {x : jI} (ht : tab c.1 = some x) (h : jexec cs jc nL ret x c.1 c.2.1 c.2.2.1 c.2.2.2 = some (.inl c')) (f : Nat) : jrun cs jc nL ret tab (f + 1) c = jrun cs jc nL ret tab f c' := by
  show (match jstep cs jc nL ret tab c with
    | none => none
    | some (.inl c') => jrun cs jc nL ret tab f c'
    | some (.inr r) => some r) = _
  unfold jstep
  rw [ht]
  simp only [h]
theorem jr0 {c : jC} {r : jR} {x : jI} (ht : tab c.1 = some x) (h : jexec cs jc nL ret x c.1 c.2.1 c.2.2.1 c.2.2.2 = some (.inr r)) (f : Nat) : jrun cs jc nL ret tab (f + 1) c = some r := by
  show (match jstep cs jc nL ret tab c with
    | none => none
    | some (.inl c') => jrun cs jc nL ret tab f c'
    | some (.inr r) => some r) = _
  unfold jstep
  rw [ht]
  simp only [h]
theorem jloop (s : Nat) (N : Nat) (R : Nat → jC → Prop) (h : ∀ i, i < N → ∀ c, R i c → ∃ c', R (i + 1) c' ∧ ∀ f, jrun cs jc nL ret tab (f + s) c = jrun cs jc nL ret tab f c') : ∀ n i, i + n = N → ∀ c, R i c → ∃ c', R N c' ∧ ∀ f, jrun cs jc nL ret tab (f + s * n) c = jrun cs jc nL ret tab f c'
  | 0, i, hi, c, hc => ⟨c, by have e : i = N := hi; rw [← e]; exact hc, fun f => rfl⟩
  | n + 1, i, hi, c, hc => by
    obtain ⟨c1, r1, e1⟩ := h i (by omega) c hc
    obtain ⟨c2, r2, e2⟩ := jloop s N R h n (i + 1) (by omega) c1 r1
    refine ⟨c2, r2, fun f => ?_⟩
    rw [Nat.mul_succ, ← Nat.add_assoc, e1, e2]
end JL
theorem lset_self {α : Type} : ∀ {l : List α} {i : Nat} {a : α}, l[i]? = some a → l.set i a = l
  | [], _, _, h => by cases h
  | x :: l, 0, a, h => by cases h; rfl
  | x :: l, i + 1, a, h => by
    show x :: l.set i a = x :: l
    rw [lset_self (l := l) (i := i) h]
theorem ti {k : Nat} (h : k < 2147483648) : (Int32.ofNat k).toInt = k := Int32.toInt_ofNat_of_lt h
theorem tn {k : Nat} (h : k < 2147483648) : (Int32.ofNat k).toNatClampNeg = k := by
  show (Int32.ofNat k).toInt.toNat = k
  rw [ti h]
  rfl
theorem t_eq {x y : Int32} (h : x.toInt = y.toInt) : x = y := by rw [← Int32.ofInt_toInt x, h, Int32.ofInt_toInt]
theorem tsucc {k : Nat} (h : k + 1 < 2147483648) : Int32.ofNat k + Int32.ofInt 1 = Int32.ofNat (k + 1) := by
  apply t_eq
  rw [Int32.toInt_add, ti (by omega), ti h, jbm]
  · rfl
  · show (-2147483648 : Int) ≤ (k : Int) + 1; omega
  · show ((k : Int) + 1) ≤ 2147483647; omega
theorem tneg {k : Nat} (h : k < 2147483648) : ¬ Int32.ofNat k < 0 := by
  intro hz
  have := Int32.lt_iff_toInt_lt.mp hz
  rw [ti h] at this
  have e : (0 : Int32).toInt = 0 := rfl
  omega
theorem tge {k : Nat} {y : Int32} (h : k < 2147483648) (hy : (k : Int) < y.toInt) : jcond .ge (Int32.ofNat k) y = false := by
  show decide (y ≤ Int32.ofNat k) = false
  rw [decide_eq_false_iff_not]
  intro hz
  have := Int32.le_iff_toInt_le.mp hz
  rw [ti h] at this
  omega
theorem tge2 {k : Nat} {y : Int32} (h : k < 2147483648) (hy : y.toInt ≤ (k : Int)) : jcond .ge (Int32.ofNat k) y = true := by
  show decide (y ≤ Int32.ofNat k) = true
  rw [decide_eq_true_eq]
  apply Int32.le_iff_toInt_le.mpr
  rw [ti h]
  exact hy
section ZL
variable {cs : Nat → Option (List Int32)} {jc : Nat → List Value → List jE → Option jR}
/-- one turn of the model's zeroes, over a zero -/
theorem z_turn {w g u : Int32} {fs : List Value} {arr : List Int32} {h : List jE} (h1 : h[137]? = some (.inl (8, .ref 138 :: fs))) (h2 : h[138]? = some (.inr (.inl (0, arr)))) (hz : ∀ k, 12 ≤ k → k < 812 → arr[k]? = some 0) {k : Nat} (k1 : 12 ≤ k) (k2 : k < 812) (f : Nat) :
    jrun cs jc 9 (some .int) jt_X9_foam (f + 10) (39, [(4, .int (Int32.ofNat k)), (0, .ref 137), (1, .int w), (2, .int g), (3, .int u)], [], h) = jrun cs jc 9 (some .int) jt_X9_foam f (39, [(4, .int (Int32.ofNat (k + 1))), (0, .ref 137), (1, .int w), (2, .int g), (3, .int u)], [], h) := by
  rw [← tsucc (k := k) (by omega)]
  generalize hL : ([(0, .ref 137), (1, .int w), (2, .int g), (3, .int u)] : List (Nat × Value)) = L0
  refine (jr1 (c := (39, (4, .int (Int32.ofNat k)) :: L0, [], h)) (c' := (41, (4, .int (Int32.ofNat k)) :: L0, [.int (Int32.ofNat k)], h)) rfl rfl _).trans ?_
  refine (jr1 (c' := (44, (4, .int (Int32.ofNat k)) :: L0, [.int (Int16.ofInt 812).toInt32, .int (Int32.ofNat k)], h)) rfl rfl _).trans ?_
  refine (jr1 (c' := (47, (4, .int (Int32.ofNat k)) :: L0, [], h)) rfl (by
    show (bif jcond .ge (Int32.ofNat k) (Int16.ofInt 812).toInt32 then jgo 61 _ _ h else jgo 47 _ _ h) = _
    rw [tge (by omega) (by have e : (Int16.ofInt 812).toInt32.toInt = 812 := rfl; rw [e]; omega)]
    rfl) _).trans ?_
  refine (jr1 (c' := (48, (4, .int (Int32.ofNat k)) :: L0, [.ref 137], h)) rfl (by subst hL; rfl) _).trans ?_
  refine (jr1 (c' := (51, (4, .int (Int32.ofNat k)) :: L0, [.ref 138], h)) rfl (by
    show jgetf 8 0 51 _ [.ref 137] h = _
    unfold jgetf
    simp only [h1]
    rfl) _).trans ?_
  refine (jr1 (c' := (53, (4, .int (Int32.ofNat k)) :: L0, [.int (Int32.ofNat k), .ref 138], h)) rfl rfl _).trans ?_
  refine (jr1 (c' := (54, (4, .int (Int32.ofNat k)) :: L0, [.int 0, .int (Int32.ofNat k), .ref 138], h)) rfl rfl _).trans ?_
  refine (jr1 (c' := (55, (4, .int (Int32.ofNat k)) :: L0, [], h)) rfl (by
    show jiast 55 _ [.int 0, .int (Int32.ofNat k), .ref 138] h = _
    have hk := hz k k1 k2
    have hlt : k < arr.length := (List.getElem?_eq_some_iff.mp hk).1
    unfold jiast
    simp only [h2, tn (k := k) (by omega)]
    rw [if_pos ⟨trivial, tneg (by omega), hlt⟩, lset_self hk, lset_self h2]
    rfl) _).trans ?_
  refine (jr1 (c' := (58, (4, .int (Int32.ofNat k + Int32.ofInt 1)) :: L0, [], h)) rfl (by subst hL; rfl) _).trans ?_
  exact jr1 (c' := (39, (4, .int (Int32.ofNat k + Int32.ofInt 1)) :: L0, [], h)) rfl rfl _
end ZL
section ZL2
variable {cs : Nat → Option (List Int32)} {jc : Nat → List Value → List jE → Option jR}
theorem z_all {w g u : Int32} {fs : List Value} {arr : List Int32} {h : List jE} (h1 : h[137]? = some (.inl (8, .ref 138 :: fs))) (h2 : h[138]? = some (.inr (.inl (0, arr)))) (hz : ∀ k, 12 ≤ k → k < 812 → arr[k]? = some 0) (f : Nat) :
    jrun cs jc 9 (some .int) jt_X9_foam (f + 8000) (39, [(4, .int (Int32.ofNat 12)), (0, .ref 137), (1, .int w), (2, .int g), (3, .int u)], [], h) = jrun cs jc 9 (some .int) jt_X9_foam f (39, [(4, .int (Int32.ofNat 812)), (0, .ref 137), (1, .int w), (2, .int g), (3, .int u)], [], h) := by
  obtain ⟨c', r, e⟩ := jloop (cs := cs) (jc := jc) (nL := 9) (ret := some .int) (tab := jt_X9_foam) 10 800 (fun i c => c = (39, [(4, .int (Int32.ofNat (12 + i))), (0, .ref 137), (1, .int w), (2, .int g), (3, .int u)], [], h)) (fun i hi c hc => by
    subst hc
    exact ⟨_, rfl, fun f => z_turn h1 h2 hz (k := 12 + i) (by omega) (by omega) f⟩) 800 0 rfl _ rfl
  subst r
  exact e f
theorem cp_set {fr g : List Int32} {k : Nat} {x : Int32} (h1 : fr[k]? = some x) (h2 : k < g.length) : (fr.take k ++ g.drop k).set k x = fr.take (k + 1) ++ g.drop (k + 1) := by
  obtain ⟨hk, hx⟩ := List.getElem?_eq_some_iff.mp h1
  have l1 : (fr.take k).length = k := by rw [List.length_take]; omega
  rw [List.drop_eq_getElem_cons h2, List.set_append_right _ _ (by omega), l1, Nat.sub_self, List.take_succ_eq_append_getElem hk, List.append_assoc, hx]
  rfl
theorem c_turn {q d : Nat} {fr g : List Int32} {h : List jE} (hq : h[q]? = some (.inr (.inl (0, fr)))) (hd : d < h.length) (hn : q ≠ d) (hb : Nat.blt q jK0 = true) (l1 : fr.length = 1082) (l2 : g.length = 1082) {k : Nat} (k2 : k < 1082) (f : Nat) :
    jrun cs jc 3 none jt_X9_copy (f + 11) (2, [(2, .int (Int32.ofNat k)), (0, .ref q), (1, .ref d)], [], h.set d (.inr (.inl (0, fr.take k ++ g.drop k)))) = jrun cs jc 3 none jt_X9_copy f (2, [(2, .int (Int32.ofNat (k + 1))), (0, .ref q), (1, .ref d)], [], h.set d (.inr (.inl (0, fr.take (k + 1) ++ g.drop (k + 1))))) := by
  rw [← tsucc (k := k) (by omega)]
  obtain ⟨x, hx⟩ : ∃ x, fr[k]? = some x := ⟨fr[k], List.getElem?_eq_getElem (by omega)⟩
  rw [← cp_set hx (by omega)]
  generalize hL : ([(0, .ref q), (1, .ref d)] : List (Nat × Value)) = L0
  generalize hH : h.set d (.inr (.inl (0, fr.take k ++ g.drop k))) = H
  have Hq : H[q]? = some (.inr (.inl (0, fr))) := by rw [← hH, List.getElem?_set_ne (fun e => hn e.symm)]; exact hq
  have Hd : H[d]? = some (.inr (.inl (0, fr.take k ++ g.drop k))) := by rw [← hH, List.getElem?_set_self hd]
  have hS : h.set d (.inr (.inl (0, (fr.take k ++ g.drop k).set k x))) = H.set d (.inr (.inl (0, (fr.take k ++ g.drop k).set k x))) := by rw [← hH, List.set_set]
  rw [hS]
  refine (jr1 (c := (2, (2, .int (Int32.ofNat k)) :: L0, [], H)) (c' := (3, (2, .int (Int32.ofNat k)) :: L0, [.int (Int32.ofNat k)], H)) rfl rfl _).trans ?_
  refine (jr1 (c' := (6, (2, .int (Int32.ofNat k)) :: L0, [.int (Int16.ofInt 1082).toInt32, .int (Int32.ofNat k)], H)) rfl rfl _).trans ?_
  refine (jr1 (c' := (9, (2, .int (Int32.ofNat k)) :: L0, [], H)) rfl (by
    show (bif jcond .ge (Int32.ofNat k) (Int16.ofInt 1082).toInt32 then jgo 21 _ _ H else jgo 9 _ _ H) = _
    rw [tge (by omega) (by have e : (Int16.ofInt 1082).toInt32.toInt = 1082 := rfl; rw [e]; omega)]
    rfl) _).trans ?_
  refine (jr1 (c' := (10, (2, .int (Int32.ofNat k)) :: L0, [.ref d], H)) rfl (by subst hL; rfl) _).trans ?_
  refine (jr1 (c' := (11, (2, .int (Int32.ofNat k)) :: L0, [.int (Int32.ofNat k), .ref d], H)) rfl rfl _).trans ?_
  refine (jr1 (c' := (12, (2, .int (Int32.ofNat k)) :: L0, [.ref q, .int (Int32.ofNat k), .ref d], H)) rfl (by subst hL; rfl) _).trans ?_
  refine (jr1 (c' := (13, (2, .int (Int32.ofNat k)) :: L0, [.int (Int32.ofNat k), .ref q, .int (Int32.ofNat k), .ref d], H)) rfl rfl _).trans ?_
  refine (jr1 (c' := (14, (2, .int (Int32.ofNat k)) :: L0, [.int x, .int (Int32.ofNat k), .ref d], H)) rfl (by
    show jiald cs 14 _ [.int (Int32.ofNat k), .ref q, .int (Int32.ofNat k), .ref d] H = _
    unfold jiald jints jat
    simp only [hb, cond_true, Hq]
    show (match (if Int32.ofNat k < 0 then none else fr[(Int32.ofNat k).toNatClampNeg]?) with
      | some x => jgo 14 _ (.int x :: _) H
      | none => none) = _
    rw [if_neg (tneg (by omega)), tn (by omega), hx]
    rfl) _).trans ?_
  refine (jr1 (c' := (15, (2, .int (Int32.ofNat k)) :: L0, [], H.set d (.inr (.inl (0, (fr.take k ++ g.drop k).set k x))))) rfl (by
    show jiast 15 _ [.int x, .int (Int32.ofNat k), .ref d] H = _
    unfold jiast
    simp only [Hd, tn (k := k) (by omega)]
    rw [if_pos ⟨trivial, tneg (by omega), by rw [List.length_append, List.length_take, List.length_drop]; omega⟩]
    rfl) _).trans ?_
  refine (jr1 (c' := (18, (2, .int (Int32.ofNat k + Int32.ofInt 1)) :: L0, [], _)) rfl (by subst hL; rfl) _).trans ?_
  exact jr1 (c' := (2, (2, .int (Int32.ofNat k + Int32.ofInt 1)) :: L0, [], _)) rfl rfl _
theorem c_all {q d : Nat} {fr g : List Int32} {h : List jE} (hq : h[q]? = some (.inr (.inl (0, fr)))) (hd : h[d]? = some (.inr (.inl (0, g)))) (hn : q ≠ d) (hb : Nat.blt q jK0 = true) (l1 : fr.length = 1082) (l2 : g.length = 1082) (f : Nat) :
    jrun cs jc 3 none jt_X9_copy (f + 4 + 11 * 1082 + 1 + 1) (0, [(0, .ref q), (1, .ref d)], [], h) = some (none, h.set d (.inr (.inl (0, fr)))) := by
  have hdl : d < h.length := (List.getElem?_eq_some_iff.mp hd).1
  obtain ⟨c', r, e⟩ := jloop (cs := cs) (jc := jc) (nL := 3) (ret := none) (tab := jt_X9_copy) 11 1082 (fun i c => c = (2, [(2, .int (Int32.ofNat i)), (0, .ref q), (1, .ref d)], [], h.set d (.inr (.inl (0, fr.take i ++ g.drop i))))) (fun i hi c hc => by
    subst hc
    exact ⟨_, rfl, fun f => c_turn hq hdl hn hb l1 l2 hi f⟩) 1082 0 rfl _ rfl
  have e0 : h.set d (.inr (.inl (0, fr.take 0 ++ g.drop 0))) = h := lset_self hd
  rw [e0] at e
  have e9 : fr.take 1082 ++ g.drop 1082 = fr := by
    rw [List.take_of_length_le (by omega), List.drop_of_length_le (by omega), List.append_nil]
  subst r
  rw [e9] at e
  refine (jr1 (c := (0, [(0, .ref q), (1, .ref d)], [], h)) (c' := (1, [(0, .ref q), (1, .ref d)], [.int 0], h)) rfl rfl (f + 4 + 11 * 1082 + 1)).trans ?_
  refine (jr1 (c' := (2, [(2, .int (Int32.ofNat 0)), (0, .ref q), (1, .ref d)], [], h)) rfl rfl (f + 4 + 11 * 1082)).trans ?_
  refine (e (f + 4)).trans ?_
  generalize h.set d (.inr (.inl (0, fr))) = H
  refine (jr1 (c' := (3, [(2, .int (Int32.ofNat 1082)), (0, .ref q), (1, .ref d)], [.int (Int32.ofNat 1082)], H)) rfl rfl (f + 3)).trans ?_
  refine (jr1 (c' := (6, [(2, .int (Int32.ofNat 1082)), (0, .ref q), (1, .ref d)], [.int (Int16.ofInt 1082).toInt32, .int (Int32.ofNat 1082)], H)) rfl rfl (f + 2)).trans ?_
  refine (jr1 (c' := (21, [(2, .int (Int32.ofNat 1082)), (0, .ref q), (1, .ref d)], [], H)) rfl (by
    show (bif jcond .ge (Int32.ofNat 1082) (Int16.ofInt 1082).toInt32 then jgo 21 [(2, .int (Int32.ofNat 1082)), (0, .ref q), (1, .ref d)] [] H else jgo 9 [(2, .int (Int32.ofNat 1082)), (0, .ref q), (1, .ref d)] [] H) = _
    rw [tge2 (by omega) (by have e : (Int16.ofInt 1082).toInt32.toInt = 1082 := rfl; rw [e]; omega)]
    rfl) (f + 1)).trans ?_
  exact jr0 rfl rfl f
end ZL2
theorem jcall_at {mt : Nat → Option jM} {cs : Nat → Option (List Int32)} {F d a : Nat} {q : jM} {vs : List Value} {h : List jE} (hm : mt a = some q) (h1 : vs.length = q.2.2.2.2.2.1) (h2 : (lg_sl vs).length ≤ q.2.2.2.1) : jcall mt cs F (d + 1) a vs h = jrun cs (jcall mt cs F d) q.2.2.2.1 q.2.2.2.2.1 q.1 F (0, lv_args 0 vs, [], h) := by
  show (match mt a with
    | none => none
    | some q => if vs.length = q.2.2.2.2.2.1 ∧ (lg_sl vs).length ≤ q.2.2.2.1 then jrun cs (jcall mt cs F d) q.2.2.2.1 q.2.2.2.2.1 q.1 F (0, lv_args 0 vs, [], h) else none) = _
  rw [hm]
  simp only []
  rw [if_pos ⟨h1, h2⟩]
theorem c_call {cs : Nat → Option (List Int32)} {q d : Nat} {fr g : List Int32} {h : List jE} (hq : h[q]? = some (.inr (.inl (0, fr)))) (hd : h[d]? = some (.inr (.inl (0, g)))) (hn : q ≠ d) (hb : Nat.blt q jK0 = true) (l1 : fr.length = 1082) (l2 : g.length = 1082) (D : Nat) : jcall jmt cs jF0 (D + 1) 150 [.ref q, .ref d] h = some (none, h.set d (.inr (.inl (0, fr)))) := by
  rw [jcall_at jmt_X9_copy rfl (Nat.le_of_ble_eq_true rfl)]
  have e : jF0 = 988092 + 4 + 11 * 1082 + 1 + 1 := rfl
  rw [e]
  exact c_all hq hd hn hb l1 l2 988092
/-- what the model's copy does, over ranges -/
def acopyM (vs : List aV) (h : List aE) : Option aR := match vs with
  | [.inr (some (.ref q)), .inr (some (.ref d))] => match h[q]?, h[d]? with
    | some (.inr (.inl F)), some (.inr (.inl G)) => bif Nat.blt q jK0 && (!(q == d) && (F.1 == 0 && (G.1 == 0 && (F.2.length == 1082 && G.2.length == 1082)))) then some (none, h.set d (.inr (.inl (0, F.2)))) else none
    | _, _ => none
  | _ => none
theorem g_cell {ha : List aE} {h : List jE} {i : Nat} {F : Nat × List aI} (hh : jF2 gE ha h) (e : ha[i]? = some (.inr (.inl F))) : ∃ f, h[i]? = some (.inr (.inl (F.1, f))) ∧ jF2 gI F.2 f := by
  obtain ⟨x, x1, x2⟩ := f2_get hh e
  match x, x2 with
  | .inr (.inl p), x2 =>
    obtain ⟨p1, p2⟩ := p
    have e1 : F.1 = p1 := x2.1
    subst e1
    exact ⟨p2, x1, x2.2⟩
  | .inl _, x2 => cases x2
  | .inr (.inr _), x2 => cases x2
theorem acopyM_ok {cs : Nat → Option (List Int32)} {D : Nat} {va : List aV} {ha : List aE} {ra : aR} {v : List Value} {h : List jE} (he : acopyM va ha = some ra) (hv : jF2 gV va v) (hh : jF2 gE ha h) : ∃ r, jcall jmt cs jF0 (D + 1) 150 v h = some r ∧ gR ra r := by
  match va, he, hv with
  | [.inr (some (.ref q)), .inr (some (.ref d))], he, hv =>
    obtain ⟨v1, vs, rfl, g1, hv⟩ := f2_cons hv
    obtain ⟨v2, vs, rfl, g2, hv⟩ := f2_cons hv
    cases f2_nil hv
    have e1 : v1 = .ref q := g1.2
    have e2 : v2 = .ref d := g2.2
    subst e1
    subst e2
    have he : (match ha[q]?, ha[d]? with
      | some (.inr (.inl F)), some (.inr (.inl G)) => bif Nat.blt q jK0 && (!(q == d) && (F.1 == 0 && (G.1 == 0 && (F.2.length == 1082 && G.2.length == 1082)))) then some ((none, ha.set d (.inr (.inl (0, F.2)))) : aR) else none
      | _, _ => none) = some ra := he
    split at he
    · rename_i F G hF hG
      rw [Bool.cond_eq_ite] at he
      split at he
      · rename_i hb
        cases he
        simp only [Bool.and_eq_true, Bool.not_eq_true', beq_eq_false_iff_ne, beq_iff_eq] at hb
        obtain ⟨b1, b2, b3, b4, b5, b6⟩ := hb
        obtain ⟨f, f1, f2⟩ := g_cell hh hF
        obtain ⟨g, k1, k2⟩ := g_cell hh hG
        rw [b3] at f1
        rw [b4] at k1
        refine ⟨_, c_call f1 k1 b2 b1 (by rw [← f2_len f2]; exact b5) (by rw [← f2_len k2]; exact b6) D, rfl, ?_⟩
        exact f2_set hh (show gE (.inr (.inl (0, F.2))) (.inr (.inl (0, f))) from ⟨rfl, f2⟩)
      · cases he
    · cases he
