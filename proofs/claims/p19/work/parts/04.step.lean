def jWs (p : Program) (l : Launch) (e : Env) (R : Room) (s : State) (m : MethodId) (args : Array Value) (below : List Frame) (meth : Method) (c : Code) (Q : State → Prop) (base : Nat) (ca : Nat → Nat) (cT : Nat → ClassId) (D : va_G) (A : Nat → Prop) (nL n0 s0 : Nat) (x : jC) : Prop :=
  x.2.2.2.length ≤ jK0 → ∀ (H : Heap) (locs : List Loc) (ls : Array Slot) (cells slots : Nat), cells + n0 = x.2.2.2.length → slots + s0 = jsl x.2.2.2 → lv_has ls nL (jL (jad base ca) x.2.1) → va_P D vwCl (jw base cT (jad base ca) x.2.2.2) H → va_S A s.heap H locs →
    W p l e R s m args below meth c H locs cells slots Q (F0 m x.1 ls (x.2.2.1.map (jv (jad base ca))))
section JS
variable {p : Program} {l : Launch} {e : Env} {R : Room} {s : State} {m : MethodId} {args : Array Value} {below : List Frame} {meth : Method} {c : Code} {Q : State → Prop} {base : Nat} {ca : Nat → Nat} {cT : Nat → ClassId} {D : va_G} {A : Nat → Prop} {nL n0 s0 : Nat}
variable {cc : ByteArray} {pc t : Nat} {L : List (Nat × Value)} {st : List Value} {h : List jE} {x' : jC}
theorem jgo_eq {x x' : jC} {t : Nat} {L : List (Nat × Value)} {st : List Value} {h : List jE} (h1 : jgo t L st h = some (.inl x')) : x' = (t, L, st, h) := by
  unfold jgo at h1
  cases h1
  rfl
theorem js_loadI_n (hx : p.tables.exec = Jvm.exec) (hb : c.code = cc) {k : Fin 4} (hd : decode cc pc = .ok (.iload_n k, 1)) (he : jloadI L k (pc + 1) st h = some (.inl x')) (kk : jWs p l e R s m args below meth c Q base ca cT D A nL n0 s0 x') : jWs p l e R s m args below meth c Q base ca cT D A nL n0 s0 (pc, L, st, h) := by
  unfold jloadI at he
  cases hg : jget L k with
  | none => rw [hg] at he; cases he
  | some v =>
    rw [hg] at he
    cases v <;> first | (cases he; done) | skip
    cases he
    exact fun hz H locs ls cells slots h1 h2 hl hP hS => lv_iload_n hx hb hd rfl (jL_get hl hg) (kk hz H locs ls cells slots h1 h2 hl hP hS)
theorem js_loadI (hx : p.tables.exec = Jvm.exec) (hb : c.code = cc) {i : Nat} (hd : decode cc pc = .ok (.iload i, 2)) (he : jloadI L i (pc + 2) st h = some (.inl x')) (kk : jWs p l e R s m args below meth c Q base ca cT D A nL n0 s0 x') : jWs p l e R s m args below meth c Q base ca cT D A nL n0 s0 (pc, L, st, h) := by
  unfold jloadI at he
  cases hg : jget L i with
  | none => rw [hg] at he; cases he
  | some v =>
    rw [hg] at he
    cases v <;> first | (cases he; done) | skip
    cases he
    exact fun hz H locs ls cells slots h1 h2 hl hP hS => lv_iload hx hb hd (jL_get hl hg) (kk hz H locs ls cells slots h1 h2 hl hP hS)
theorem js_loadL_n (hx : p.tables.exec = Jvm.exec) (hb : c.code = cc) {k : Fin 4} (hd : decode cc pc = .ok (.lload_n k, 1)) (he : jloadL L k (pc + 1) st h = some (.inl x')) (kk : jWs p l e R s m args below meth c Q base ca cT D A nL n0 s0 x') : jWs p l e R s m args below meth c Q base ca cT D A nL n0 s0 (pc, L, st, h) := by
  unfold jloadL at he
  cases hg : jget L k with
  | none => rw [hg] at he; cases he
  | some v =>
    rw [hg] at he
    cases v <;> first | (cases he; done) | skip
    cases he
    exact fun hz H locs ls cells slots h1 h2 hl hP hS => lv_lload_n hx hb hd rfl (jL_get hl hg) (kk hz H locs ls cells slots h1 h2 hl hP hS)
theorem js_loadL (hx : p.tables.exec = Jvm.exec) (hb : c.code = cc) {i : Nat} (hd : decode cc pc = .ok (.lload i, 2)) (he : jloadL L i (pc + 2) st h = some (.inl x')) (kk : jWs p l e R s m args below meth c Q base ca cT D A nL n0 s0 x') : jWs p l e R s m args below meth c Q base ca cT D A nL n0 s0 (pc, L, st, h) := by
  unfold jloadL at he
  cases hg : jget L i with
  | none => rw [hg] at he; cases he
  | some v =>
    rw [hg] at he
    cases v <;> first | (cases he; done) | skip
    cases he
    exact fun hz H locs ls cells slots h1 h2 hl hP hS => lv_lload hx hb hd (jL_get hl hg) (kk hz H locs ls cells slots h1 h2 hl hP hS)
theorem js_loadA_n (hx : p.tables.exec = Jvm.exec) (hb : c.code = cc) {k : Fin 4} (hd : decode cc pc = .ok (.aload_n k, 1)) (he : jloadA L k (pc + 1) st h = some (.inl x')) (kk : jWs p l e R s m args below meth c Q base ca cT D A nL n0 s0 x') : jWs p l e R s m args below meth c Q base ca cT D A nL n0 s0 (pc, L, st, h) := by
  unfold jloadA at he
  cases hg : jget L k with
  | none => rw [hg] at he; cases he
  | some v =>
    rw [hg] at he
    cases v <;> first | (cases he; done) | skip
    cases he
    exact fun hz H locs ls cells slots h1 h2 hl hP hS => lv_aload_n hx hb hd rfl (jL_get hl hg) (kk hz H locs ls cells slots h1 h2 hl hP hS)
theorem js_loadA (hx : p.tables.exec = Jvm.exec) (hb : c.code = cc) {i : Nat} (hd : decode cc pc = .ok (.aload i, 2)) (he : jloadA L i (pc + 2) st h = some (.inl x')) (kk : jWs p l e R s m args below meth c Q base ca cT D A nL n0 s0 x') : jWs p l e R s m args below meth c Q base ca cT D A nL n0 s0 (pc, L, st, h) := by
  unfold jloadA at he
  cases hg : jget L i with
  | none => rw [hg] at he; cases he
  | some v =>
    rw [hg] at he
    cases v <;> first | (cases he; done) | skip
    cases he
    exact fun hz H locs ls cells slots h1 h2 hl hP hS => lv_aload hx hb hd (jL_get hl hg) (kk hz H locs ls cells slots h1 h2 hl hP hS)
theorem js_storeI_n (hx : p.tables.exec = Jvm.exec) (hb : c.code = cc) {k : Fin 4} (hd : decode cc pc = .ok (.istore_n k, 1)) (he : jstoreI nL L k (pc + 1) st h = some (.inl x')) (kk : jWs p l e R s m args below meth c Q base ca cT D A nL n0 s0 x') : jWs p l e R s m args below meth c Q base ca cT D A nL n0 s0 (pc, L, st, h) := by
  unfold jstoreI at he
  split at he
  · rename_i x r
    cases hn : Nat.blt k nL with
    | false => rw [hn] at he; cases he
    | true =>
      rw [hn] at he
      cases he
      exact fun hz H locs ls cells slots h1 h2 hl hP hS => lv_istore_n hx hb hd rfl hl (Nat.le_of_ble_eq_true hn) (jL_put _ L k (.int x)) (fun ls' hl' => kk hz H locs ls' cells slots h1 h2 hl' hP hS)
  · cases he
theorem js_storeI (hx : p.tables.exec = Jvm.exec) (hb : c.code = cc) {i : Nat} (hd : decode cc pc = .ok (.istore i, 2)) (he : jstoreI nL L i (pc + 2) st h = some (.inl x')) (kk : jWs p l e R s m args below meth c Q base ca cT D A nL n0 s0 x') : jWs p l e R s m args below meth c Q base ca cT D A nL n0 s0 (pc, L, st, h) := by
  unfold jstoreI at he
  split at he
  · rename_i x r
    cases hn : Nat.blt i nL with
    | false => rw [hn] at he; cases he
    | true =>
      rw [hn] at he
      cases he
      exact fun hz H locs ls cells slots h1 h2 hl hP hS => lv_istore hx hb hd hl (Nat.le_of_ble_eq_true hn) (jL_put _ L i (.int x)) (fun ls' hl' => kk hz H locs ls' cells slots h1 h2 hl' hP hS)
  · cases he
theorem js_storeA_n (hx : p.tables.exec = Jvm.exec) (hb : c.code = cc) {k : Fin 4} (hd : decode cc pc = .ok (.astore_n k, 1)) (he : jstoreA nL L k (pc + 1) st h = some (.inl x')) (kk : jWs p l e R s m args below meth c Q base ca cT D A nL n0 s0 x') : jWs p l e R s m args below meth c Q base ca cT D A nL n0 s0 (pc, L, st, h) := by
  unfold jstoreA at he
  split at he
  · rename_i x r
    cases hn : Nat.blt k nL with
    | false => rw [hn] at he; cases he
    | true =>
      rw [hn] at he
      cases he
      exact fun hz H locs ls cells slots h1 h2 hl hP hS => lv_astore_n hx hb hd rfl hl (Nat.le_of_ble_eq_true hn) (jL_put _ L k (.ref x)) (fun ls' hl' => kk hz H locs ls' cells slots h1 h2 hl' hP hS)
  · cases he
theorem js_storeA (hx : p.tables.exec = Jvm.exec) (hb : c.code = cc) {i : Nat} (hd : decode cc pc = .ok (.astore i, 2)) (he : jstoreA nL L i (pc + 2) st h = some (.inl x')) (kk : jWs p l e R s m args below meth c Q base ca cT D A nL n0 s0 x') : jWs p l e R s m args below meth c Q base ca cT D A nL n0 s0 (pc, L, st, h) := by
  unfold jstoreA at he
  split at he
  · rename_i x r
    cases hn : Nat.blt i nL with
    | false => rw [hn] at he; cases he
    | true =>
      rw [hn] at he
      cases he
      exact fun hz H locs ls cells slots h1 h2 hl hP hS => lv_astore hx hb hd hl (Nat.le_of_ble_eq_true hn) (jL_put _ L i (.ref x)) (fun ls' hl' => kk hz H locs ls' cells slots h1 h2 hl' hP hS)
  · cases he
theorem js_storeL_n (hx : p.tables.exec = Jvm.exec) (hb : c.code = cc) {k : Fin 4} (hd : decode cc pc = .ok (.lstore_n k, 1)) (he : jstoreL nL L k (pc + 1) st h = some (.inl x')) (kk : jWs p l e R s m args below meth c Q base ca cT D A nL n0 s0 x') : jWs p l e R s m args below meth c Q base ca cT D A nL n0 s0 (pc, L, st, h) := by
  unfold jstoreL at he
  split at he
  · rename_i x r
    cases hn : Nat.blt ((k : Nat) + 1) nL with
    | false => rw [hn] at he; cases he
    | true =>
      rw [hn] at he
      cases he
      exact fun hz H locs ls cells slots h1 h2 hl hP hS => lv_lstore_n hx hb hd rfl hl (Nat.le_of_ble_eq_true hn) (jL_put2 _ L k (.long x)) (fun ls' hl' => kk hz H locs ls' cells slots h1 h2 hl' hP hS)
  · cases he
theorem js_storeL (hx : p.tables.exec = Jvm.exec) (hb : c.code = cc) {i : Nat} (hd : decode cc pc = .ok (.lstore i, 2)) (he : jstoreL nL L i (pc + 2) st h = some (.inl x')) (kk : jWs p l e R s m args below meth c Q base ca cT D A nL n0 s0 x') : jWs p l e R s m args below meth c Q base ca cT D A nL n0 s0 (pc, L, st, h) := by
  unfold jstoreL at he
  split at he
  · rename_i x r
    cases hn : Nat.blt (i + 1) nL with
    | false => rw [hn] at he; cases he
    | true =>
      rw [hn] at he
      cases he
      exact fun hz H locs ls cells slots h1 h2 hl hP hS => lv_lstore hx hb hd hl (Nat.le_of_ble_eq_true hn) (jL_put2 _ L i (.long x)) (fun ls' hl' => kk hz H locs ls' cells slots h1 h2 hl' hP hS)
  · cases he
theorem js_iinc (hx : p.tables.exec = Jvm.exec) (hb : c.code = cc) {i : Nat} {n : Int} {v : Int32} (hd : decode cc pc = .ok (.iinc i n, 3)) (hg : jget L i = some (.int v)) (hn : Nat.blt i nL = true) (kk : jWs p l e R s m args below meth c Q base ca cT D A nL n0 s0 (pc + 3, jput L i (.int (v + Int32.ofInt n)), st, h)) : jWs p l e R s m args below meth c Q base ca cT D A nL n0 s0 (pc, L, st, h) := by
  intro hz H locs ls cells slots h1 h2 hl hP hS
  obtain ⟨k, hk⟩ := jget_mem hg
  refine lv_iinc (k := k) hx hb hd hl (x := v) ?_ rfl (Nat.le_of_ble_eq_true hn) (jL_put _ L i (.int _)) (fun ls' hl' => kk hz H locs ls' cells slots h1 h2 hl' hP hS)
  unfold jL
  rw [List.getElem?_map, hk]
  rfl
/-- an instruction that turns the stack alone -/
theorem js_st {st' : List Value} {t : Nat} (hw : ∀ (H : Heap) (locs : List Loc) (ls : Array Slot) (cells slots : Nat), W p l e R s m args below meth c H locs cells slots Q (F0 m t ls (st'.map (jv (jad base ca)))) → W p l e R s m args below meth c H locs cells slots Q (F0 m pc ls (st.map (jv (jad base ca))))) (kk : jWs p l e R s m args below meth c Q base ca cT D A nL n0 s0 (t, L, st', h)) : jWs p l e R s m args below meth c Q base ca cT D A nL n0 s0 (pc, L, st, h) :=
  fun hz H locs ls cells slots h1 h2 hl hP hS => hw H locs ls cells slots (kk hz H locs ls cells slots h1 h2 hl hP hS)
theorem js_op2 {f : Int32 → Int32 → Int32} (hw : ∀ (H : Heap) (locs : List Loc) (ls : Array Slot) (cells slots : Nat) (x y : Int32) (rest : List Value), W p l e R s m args below meth c H locs cells slots Q (F0 m t ls (.int (f x y) :: rest)) → W p l e R s m args below meth c H locs cells slots Q (F0 m pc ls (.int y :: .int x :: rest))) (he : jop2 f t L st h = some (.inl x')) (kk : jWs p l e R s m args below meth c Q base ca cT D A nL n0 s0 x') : jWs p l e R s m args below meth c Q base ca cT D A nL n0 s0 (pc, L, st, h) := by
  unfold jop2 at he
  split at he
  · cases he
    exact js_st (fun H locs ls cells slots k => hw H locs ls cells slots _ _ _ k) kk
  · cases he
theorem js_op2L {f : Int64 → Int64 → Int64} (hw : ∀ (H : Heap) (locs : List Loc) (ls : Array Slot) (cells slots : Nat) (x y : Int64) (rest : List Value), W p l e R s m args below meth c H locs cells slots Q (F0 m t ls (.long (f x y) :: rest)) → W p l e R s m args below meth c H locs cells slots Q (F0 m pc ls (.long y :: .long x :: rest))) (he : jop2L f t L st h = some (.inl x')) (kk : jWs p l e R s m args below meth c Q base ca cT D A nL n0 s0 x') : jWs p l e R s m args below meth c Q base ca cT D A nL n0 s0 (pc, L, st, h) := by
  unfold jop2L at he
  split at he
  · cases he
    exact js_st (fun H locs ls cells slots k => hw H locs ls cells slots _ _ _ k) kk
  · cases he
theorem js_op1 {f : Int32 → Int32} (hw : ∀ (H : Heap) (locs : List Loc) (ls : Array Slot) (cells slots : Nat) (x : Int32) (rest : List Value), W p l e R s m args below meth c H locs cells slots Q (F0 m t ls (.int (f x) :: rest)) → W p l e R s m args below meth c H locs cells slots Q (F0 m pc ls (.int x :: rest))) (he : jop1 f t L st h = some (.inl x')) (kk : jWs p l e R s m args below meth c Q base ca cT D A nL n0 s0 x') : jWs p l e R s m args below meth c Q base ca cT D A nL n0 s0 (pc, L, st, h) := by
  unfold jop1 at he
  split at he
  · cases he
    exact js_st (fun H locs ls cells slots k => hw H locs ls cells slots _ _ k) kk
  · cases he
theorem js_shL {f : Int64 → Int32 → Int64} (hw : ∀ (H : Heap) (locs : List Loc) (ls : Array Slot) (cells slots : Nat) (x : Int64) (y : Int32) (rest : List Value), W p l e R s m args below meth c H locs cells slots Q (F0 m t ls (.long (f x y) :: rest)) → W p l e R s m args below meth c H locs cells slots Q (F0 m pc ls (.int y :: .long x :: rest))) (he : jshL f t L st h = some (.inl x')) (kk : jWs p l e R s m args below meth c Q base ca cT D A nL n0 s0 x') : jWs p l e R s m args below meth c Q base ca cT D A nL n0 s0 (pc, L, st, h) := by
  unfold jshL at he
  split at he
  · cases he
    exact js_st (fun H locs ls cells slots k => hw H locs ls cells slots _ _ _ k) kk
  · cases he
theorem js_if (hx : p.tables.exec = Jvm.exec) (hb : c.code = cc) {q : ClassFile.Cond} {off : Int} {a : Nat} (hd : decode cc pc = .ok (.ifCond q off, 3)) (ht : (pc : Int) + off = (a : Int)) (he : jif q a (pc + 3) L st h = some (.inl x')) (kk : jWs p l e R s m args below meth c Q base ca cT D A nL n0 s0 x') : jWs p l e R s m args below meth c Q base ca cT D A nL n0 s0 (pc, L, st, h) := by
  unfold jif at he
  split at he
  · rename_i x r
    cases hc : jcond q x 0 with
    | true =>
      rw [hc] at he
      cases he
      refine js_st (t := a) (st' := r) (fun H locs ls cells slots k => ?_) kk
      cases q
      · exact lv_if_eq hx hb hd ht (fun _ => k) (fun z => absurd (of_decide_eq_true hc) z)
      · exact lv_if_ne hx hb hd ht (fun _ => k) (fun z => absurd z (of_decide_eq_true hc))
      · exact lv_if_lt hx hb hd ht (fun _ => k) (fun z => absurd (of_decide_eq_true hc) z)
      · exact lv_if_ge hx hb hd ht (fun _ => k) (fun z => absurd (of_decide_eq_true hc) z)
      · exact lv_if_gt hx hb hd ht (fun _ => k) (fun z => absurd (of_decide_eq_true hc) z)
      · exact lv_if_le hx hb hd ht (fun _ => k) (fun z => absurd (of_decide_eq_true hc) z)
    | false =>
      rw [hc] at he
      cases he
      refine js_st (t := pc + 3) (st' := r) (fun H locs ls cells slots k => ?_) kk
      cases q
      · exact lv_if_eq hx hb hd ht (fun z => absurd z (of_decide_eq_false hc)) (fun _ => k)
      · exact lv_if_ne hx hb hd ht (fun z => absurd z (of_decide_eq_false hc)) (fun _ => k)
      · exact lv_if_lt hx hb hd ht (fun z => absurd z (of_decide_eq_false hc)) (fun _ => k)
      · exact lv_if_ge hx hb hd ht (fun z => absurd z (of_decide_eq_false hc)) (fun _ => k)
      · exact lv_if_gt hx hb hd ht (fun z => absurd z (of_decide_eq_false hc)) (fun _ => k)
      · exact lv_if_le hx hb hd ht (fun z => absurd z (of_decide_eq_false hc)) (fun _ => k)
  · cases he
theorem js_icmp (hx : p.tables.exec = Jvm.exec) (hb : c.code = cc) {q : ClassFile.Cond} {off : Int} {a : Nat} (hd : decode cc pc = .ok (.if_icmp q off, 3)) (ht : (pc : Int) + off = (a : Int)) (he : jicmp q a (pc + 3) L st h = some (.inl x')) (kk : jWs p l e R s m args below meth c Q base ca cT D A nL n0 s0 x') : jWs p l e R s m args below meth c Q base ca cT D A nL n0 s0 (pc, L, st, h) := by
  unfold jicmp at he
  split at he
  · rename_i y x r
    cases hc : jcond q x y with
    | true =>
      rw [hc] at he
      cases he
      refine js_st (t := a) (st' := r) (fun H locs ls cells slots k => ?_) kk
      cases q
      · exact lv_icmp_eq hx hb hd ht (fun _ => k) (fun z => absurd (of_decide_eq_true hc) z)
      · exact lv_icmp_ne hx hb hd ht (fun _ => k) (fun z => absurd z (of_decide_eq_true hc))
      · exact lv_icmp_lt hx hb hd ht (fun _ => k) (fun z => absurd (of_decide_eq_true hc) z)
      · exact lv_icmp_ge hx hb hd ht (fun _ => k) (fun z => absurd (of_decide_eq_true hc) z)
      · exact lv_icmp_gt hx hb hd ht (fun _ => k) (fun z => absurd (of_decide_eq_true hc) z)
      · exact lv_icmp_le hx hb hd ht (fun _ => k) (fun z => absurd (of_decide_eq_true hc) z)
    | false =>
      rw [hc] at he
      cases he
      refine js_st (t := pc + 3) (st' := r) (fun H locs ls cells slots k => ?_) kk
      cases q
      · exact lv_icmp_eq hx hb hd ht (fun z => absurd z (of_decide_eq_false hc)) (fun _ => k)
      · exact lv_icmp_ne hx hb hd ht (fun z => absurd z (of_decide_eq_false hc)) (fun _ => k)
      · exact lv_icmp_lt hx hb hd ht (fun z => absurd z (of_decide_eq_false hc)) (fun _ => k)
      · exact lv_icmp_ge hx hb hd ht (fun z => absurd z (of_decide_eq_false hc)) (fun _ => k)
      · exact lv_icmp_gt hx hb hd ht (fun z => absurd z (of_decide_eq_false hc)) (fun _ => k)
      · exact lv_icmp_le hx hb hd ht (fun z => absurd z (of_decide_eq_false hc)) (fun _ => k)
  · cases he
end JS
