theorem jK_mv {xs : List Int32} {ca : Nat → Nat} {cT : Nat → ClassId} {D : va_G} {A : Nat → Prop} {u U : State} {H H1 : Heap} (hvm : u.vm.Alike U.vm) (h1 : ∀ (o : String) (k : Nat) (tx : String) (a : Nat), vk_R o k tx a u → vk_R o k tx a U) (h2 : ∀ (a : String) (i : Nat) (x : MethodName) (h : String), va_Nw (.methodLinkNest a i x h) u → va_Nw (.methodLinkNest a i x h) U)
    (hq : ∀ a : Nat, a < H.size → ¬ A a → H1[a]? = H[a]?) (h : jK xs ca cT D A u H) : jK xs ca cT D A U H1 := by
  obtain ⟨k1, k2, k3, k4, k5, k6, k7, k8⟩ := h
  exact ⟨k1.moved hvm, fun k l hk => ((k2 k l hk).kept hq).moved hvm, fun k q hk => ((k3 k q hk).kept hq).moved hvm, fun k q hk => ⟨h1 _ _ _ _ (k4 k q hk).1, ((k4 k q hk).2.kept hq).moved hvm⟩, fun k q hk => h2 _ _ _ _ (k5 k q hk), k6.moved hvm, k7.moved hvm, over_moved hvm k8⟩
/-- at a call: the callee's start -/
theorem jK_call {xs : List Int32} {ca : Nat → Nat} {cT : Nat → ClassId} {D : va_G} {A : Nat → Prop} {s U : State} {H : Heap} {locs : List Loc} (h : jK xs ca cT D A s s.heap) (hS : va_S A s.heap H locs) (hU : U.heap = H) (hW : s.WarmedH U.vm) : jK xs ca cT D A U U.heap := by
  rw [hU]
  exact jK_mv hW.alike (fun _ _ _ _ => vk_R.warm hW) (fun _ _ _ _ => va_Nw.warmM hW) hS.2.1 h
theorem jK_blind {xs : List Int32} {ca : Nat → Nat} {cT : Nat → ClassId} {D : va_G} {A : Nat → Prop} {U : State} {g : JFrame} {mk : MethodId} {a : Array Value} (h : jK xs ca cT D A U U.heap) : jK xs ca cT D A (U.calling g mk a) (U.calling g mk a).heap :=
  jK_mv (u := U) (U := U.calling g mk a) (Vm.Alike.refl U.vm) (fun _ _ _ _ => vk_R.same rfl) (fun _ _ _ _ => va_Nw.same rfl rfl) (fun _ _ _ => rfl) h
def jfld (G : List Cond) (own : String) (i a b : Nat) : Prop := ∃ q : vw_C, vwCl[a]? = some q ∧ b < q.2.2 ∧ (∀ w ∈ u_ws q.1 q.2.1 q.2.2, w ∈ G) ∧ Cond.fieldLink own i (q.2.1 b).1 (q.2.1 b).2.1 (q.2.1 b).2.2.1 ∈ G
def jtyc (c : Nat) (ty : FieldType) : Prop := (c = 0 ∧ ty = .int) ∨ (c = 1 ∧ ty = .boolean) ∨ (c = 2 ∧ ((∃ n, ty = .object n) ∨ ∃ t, ty = .array t))
def jfput (G : List Cond) (own : String) (ini : Prop) (i a b c : Nat) : Prop := ∃ (q : vw_C) (ty0 : Nat → FieldType), vwCl[a]? = some q ∧ b < q.2.2 ∧ (∀ w ∈ u_ws q.1 q.2.1 q.2.2, w ∈ G) ∧ Cond.fieldLink own i (q.2.1 b).1 (q.2.1 b).2.1 (q.2.1 b).2.2.1 ∈ G ∧
  (∀ k, k < q.2.2 → parseFieldDescriptor (q.2.1 k).2.2.1 = some (ty0 k)) ∧ (∀ x, x < q.2.2 → ∀ y, y < q.2.2 → x ≠ y → (q.2.1 x).2.1 ≠ (q.2.1 y).2.1) ∧ jtyc c (ty0 b) ∧ ((q.2.1 b).2.2.2 = false ∨ ((q.2.1 b).2.2.2 = true ∧ ini ∧ (q.2.1 b).1 = own))
theorem jfit_ok {ty : Nat} {v : Value} (h : jfit ty v = true) (ad : Nat → Nat) {t : FieldType} (ht : jtyc ty t) : narrow t (jv ad v) = jv ad v ∧ fits t (jv ad v) = true := by
  cases v with
  | int x =>
    have h' : (ty == 0 || (ty == 1 && decide (x = 0 ∨ x = 1))) = true := h
    simp only [Bool.or_eq_true, Bool.and_eq_true, beq_iff_eq, decide_eq_true_eq] at h'
    rcases ht with ⟨e, rfl⟩ | ⟨e, rfl⟩ | ⟨e, -⟩
    · exact ⟨rfl, rfl⟩
    · rcases h' with z | ⟨-, rfl | rfl⟩
      · omega
      · exact ⟨by show narrow .boolean (.int 0) = .int 0; decide, by show fits .boolean (.int 0) = true; decide⟩
      · exact ⟨by show narrow .boolean (.int 1) = .int 1; decide, by show fits .boolean (.int 1) = true; decide⟩
    · omega
  | ref x =>
    have h' : (ty == 2) = true := h
    simp only [beq_iff_eq] at h'
    rcases ht with ⟨e, rfl⟩ | ⟨e, rfl⟩ | ⟨e, ⟨n, rfl⟩ | ⟨n, rfl⟩⟩
    · omega
    · omega
    · exact ⟨rfl, rfl⟩
    · exact ⟨rfl, rfl⟩
  | _ => cases h
section JH
variable {p : Program} {l : Launch} {e : Env} {R : Room} {s : State} {m : MethodId} {args : Array Value} {below : List Frame} {meth : Method} {c : Code} {Q : State → Prop} {base : Nat} {ca : Nat → Nat} {cT : Nat → ClassId} {D : va_G} {A : Nat → Prop} {nL n0 s0 : Nat}
variable {cc : ByteArray} {pc t : Nat} {L : List (Nat × Value)} {st : List Value} {h : List jE} {x' : jC} {G Ts : List Cond} {own : String} {xs : List Int32}
theorem jlt {h : List jE} {i : Nat} {y : jE} (hz : h.length ≤ jK0) (hi : h[i]? = some y) : i < jK0 := Nat.lt_of_lt_of_le (List.getElem?_eq_some_iff.mp hi).1 hz
theorem js_get (hx : p.tables.exec = Jvm.exec) (hb : c.code = cc) (hts : ∀ w ∈ Ts, w.before args s = true) (hG : ∀ w ∈ G, w ∈ Ts) (hown : s.vm.findClass own = some m.cls) (hK : jK xs ca cT D A s s.heap) {i a b : Nat} (hd : decode cc pc = .ok (.getfield i, 3)) (hf : jfld G own i a b) (he : jgetf a b (pc + 3) L st h = some (.inl x')) (kk : jWs p l e R s m args below meth c Q base ca cT D A nL n0 s0 x') : jWs p l e R s m args below meth c Q base ca cT D A nL n0 s0 (pc, L, st, h) := by
  obtain ⟨⟨C, T, N⟩, f1, f2, f3, f4⟩ := hf
  unfold jgetf at he
  split at he
  · rename_i j r
    split at he
    · rename_i o ho
      cases hc : (o.1 == a) with
      | false => rw [hc] at he; cases he
      | true =>
        rw [hc] at he
        obtain ⟨ci, fs⟩ := o
        cases eq_of_beq hc
        cases hv : fs[b]? with
        | none => simp only [cond_true, hv] at he; cases he
        | some v =>
          simp only [cond_true, hv] at he
          cases he
          intro hz H locs ls cells slots h1 h2 hl hP hS
          have e1 : jad base ca j = base + j := jad_lt (jlt hz ho)
          show W p l e R s m args below meth c H locs cells slots Q (F0 m pc ls (.ref (jad base ca j) :: r.map (jv (jad base ca))))
          rw [e1]
          exact va_get (D := D) (tys := jtys cT) (C := C) (T := T) (N := N) (ref := (T b).1) (v := jv (jad base ca) v) hx hb hts (fun w hw => hG w (f3 w hw)) hown hK.1 hP j (jw_get ho) f1 b f2 (hts _ (hG _ f4)) (fun _ h9 => h9) (by rw [List.getElem?_map, hv]; rfl) hd (kk hz H locs ls cells slots h1 h2 hl hP hS)
    · cases he
  · cases he
theorem js_put (hx : p.tables.exec = Jvm.exec) (hb : c.code = cc) (hts : ∀ w ∈ Ts, w.before args s = true) (hG : ∀ w ∈ G, w ∈ Ts) (hown : s.vm.findClass own = some m.cls) (hK : jK xs ca cT D A s s.heap) (hA : ∀ q, base ≤ q → A q) {ini : Prop} (hin : ini → meth.name = "<init>") {i a b q : Nat} (hd : decode cc pc = .ok (.putfield i, 3)) (hf : jfput G own ini i a b q) (he : jputf a b q (pc + 3) L st h = some (.inl x')) (kk : jWs p l e R s m args below meth c Q base ca cT D A nL n0 s0 x') : jWs p l e R s m args below meth c Q base ca cT D A nL n0 s0 (pc, L, st, h) := by
  obtain ⟨⟨C, T, N⟩, ty0, f1, f2, f3, f4, f5, f6, f7, f8⟩ := hf
  unfold jputf at he
  split at he
  · rename_i v j r
    split at he
    · rename_i o ho
      cases hc : (o.1 == a && (Nat.blt b o.2.length && jfit q v)) with
      | false => rw [hc] at he; cases he
      | true =>
        rw [hc] at he
        simp only [Bool.and_eq_true, beq_iff_eq] at hc
        obtain ⟨ci, fs⟩ := o
        obtain ⟨rfl, hlen, hfit⟩ := hc
        have hlen : b < fs.length := Nat.le_of_ble_eq_true hlen
        cases he
        intro hz H locs ls cells slots h1 h2 hl hP hS
        have e1 : jad base ca j = base + j := jad_lt (jlt hz ho)
        obtain ⟨g1, g2⟩ := jfit_ok hfit (jad base ca) f7
        have hset : (jw base cT (jad base ca) h).set j (base + j, .inr (ci, (fs.map (jv (jad base ca))).set b (jv (jad base ca) v))) = jw base cT (jad base ca) (h.set j (.inl (ci, fs.set b v))) := by
          rw [← jw_set]
          show _ = (jw base cT (jad base ca) h).set j (base + j, .inr (ci, (fs.set b v).map (jv (jad base ca))))
          rw [List.map_set]
        have hz2 : (h.set j (.inl (ci, fs.set b v))).length ≤ jK0 := by rw [List.length_set]; exact hz
        have h12 : cells + n0 = (h.set j (.inl (ci, fs.set b v))).length := by rw [List.length_set]; exact h1
        have h22 : slots + s0 = jsl (h.set j (.inl (ci, fs.set b v))) := by rw [jsl_set ho (by simp [jsz])]; exact h2
        show W p l e R s m args below meth c H locs cells slots Q (F0 m pc ls (jv (jad base ca) v :: .ref (jad base ca j) :: r.map (jv (jad base ca))))
        rw [e1]
        have k2 : ∀ (H1 : Heap) (locs1 : List Loc), va_P D vwCl ((jw base cT (jad base ca) h).set j (base + j, .inr (ci, (fs.map (jv (jad base ca))).set b (jv (jad base ca) v)))) H1 → va_D A ((jw base cT (jad base ca) h).set j (base + j, .inr (ci, (fs.map (jv (jad base ca))).set b (jv (jad base ca) v)))) → va_S A s.heap H1 locs1 → W p l e R s m args below meth c H1 locs1 cells slots Q (F0 m (pc + 3) ls (r.map (jv (jad base ca)))) := by
          intro H1 locs1 hP1 _ hS1
          rw [hset] at hP1
          exact kk hz2 H1 locs1 ls cells slots h12 h22 hl hP1 hS1
        rcases f8 with f8 | ⟨f8, f9, f10⟩
        · exact va_put (D := D) (tys := jtys cT) (C := C) (T := T) (N := N) (ref := (T b).1) (ty := ty0 b) hx hb hts (fun w hw => hG w (f3 w hw)) ty0 f5 f6 hown hK.1 hP (jw_D hA) hS j (jw_get ho) f1 b f2 (hts _ (hG _ f4)) (fun _ h9 => h9) f8 (f5 b f2) g1 g2 (by rw [List.length_map]; exact hlen) hd k2
        · exact va_putF (D := D) (tys := jtys cT) (C := C) (T := T) (N := N) (ref := (T b).1) (ty := ty0 b) hx hb hts (fun w hw => hG w (f3 w hw)) ty0 f5 f6 hown hK.1 hP (jw_D hA) hS j (jw_get ho) f1 b f2 (hts _ (hG _ f4)) (fun _ h9 => h9) f8 (hin f9) f10 (f5 b f2) g1 g2 (by rw [List.length_map]; exact hlen) hd k2
    · cases he
  · cases he
theorem js_ald (hx : p.tables.exec = Jvm.exec) (hb : c.code = cc) (hK : jK xs ca cT D A s s.heap) (hd : decode cc pc = .ok (.iaload, 1)) (he : jiald (jcs xs) (pc + 1) L st h = some (.inl x')) (kk : jWs p l e R s m args below meth c Q base ca cT D A nL n0 s0 x') : jWs p l e R s m args below meth c Q base ca cT D A nL n0 s0 (pc, L, st, h) := by
  unfold jiald at he
  split at he
  · rename_i j i r
    split at he
    · rename_i lz hlz
      split at he
      · rename_i x hx9
        cases he
        obtain ⟨v1, v2⟩ := jvp hx9
        intro hz H locs ls cells slots h1 h2 hl hP hS
        show W p l e R s m args below meth c H locs cells slots Q (F0 m pc ls (.int j :: .ref (jad base ca i) :: r.map (jv (jad base ca))))
        have kk2 := kk hz H locs ls cells slots h1 h2 hl hP hS
        unfold jints at hlz
        cases hi : Nat.blt i jK0 with
        | true =>
          rw [hi, cond_true] at hlz
          have hi' : i < jK0 := Nat.le_of_ble_eq_true hi
          split at hlz
          · rename_i a ha
            cases hc : (a.1 == 0) with
            | false => rw [hc] at hlz; cases hlz
            | true =>
              rw [hc] at hlz
              cases hlz
              obtain ⟨t0, la⟩ := a
              cases eq_of_beq hc
              rw [jad_lt hi']
              exact va_iald (D := D) (tys := jtys cT) hx hb hK.1 hP i 0 (jw_get ha) rfl v1 hd (by rw [v2]; exact kk2)
          · cases hlz
        | false =>
          rw [hi, cond_false] at hlz
          have hi' : ¬ i < jK0 := fun z => by
            have z2 : Nat.blt i jK0 = true := Nat.ble_eq_true_of_le z
            rw [hi] at z2
            cases z2
          obtain ⟨cell, t1, t2, t3, t4, t5, t6, t7⟩ := hK.2.1 _ _ hlz
          have hlt : j.toNatClampNeg < lz.length := Nat.not_le.mp fun q => v1 (Or.inr q)
          have e1 : jad base ca i = ca (i - jK0) := if_neg hi'
          rw [e1]
          exact W.iald (v := .int x) hx hb (by rw [hS.2.1 _ (Array.getElem?_eq_some_iff.mp t1).1 t7]; exact t1) t2 t3 (fun q => q.elim (fun z => v1 (Or.inl z)) (fun z => by omega)) ((t6 _ hlt).trans (congrArg (fun z => some (Value.int z)) v2)) rfl rfl hd kk2
      · cases he
    · cases he
  · cases he
theorem js_len (hx : p.tables.exec = Jvm.exec) (hb : c.code = cc) (hK : jK xs ca cT D A s s.heap) (hd : decode cc pc = .ok (.arraylength, 1)) (he : jalen (jcs xs) (pc + 1) L st h = some (.inl x')) (kk : jWs p l e R s m args below meth c Q base ca cT D A nL n0 s0 x') : jWs p l e R s m args below meth c Q base ca cT D A nL n0 s0 (pc, L, st, h) := by
  unfold jalen at he
  split at he
  · rename_i i r
    split at he
    · rename_i lz hlz
      cases he
      intro hz H locs ls cells slots h1 h2 hl hP hS
      show W p l e R s m args below meth c H locs cells slots Q (F0 m pc ls (.ref (jad base ca i) :: r.map (jv (jad base ca))))
      have kk2 := kk hz H locs ls cells slots h1 h2 hl hP hS
      unfold jints at hlz
      cases hi : Nat.blt i jK0 with
      | true =>
        rw [hi, cond_true] at hlz
        have hi' : i < jK0 := Nat.le_of_ble_eq_true hi
        split at hlz
        · rename_i a ha
          cases hc : (a.1 == 0) with
          | false => rw [hc] at hlz; cases hlz
          | true =>
            rw [hc] at hlz
            cases hlz
            obtain ⟨t0, la⟩ := a
            cases eq_of_beq hc
            rw [jad_lt hi']
            exact va_alen (D := D) (tys := jtys cT) hx hb hK.1 hP i 0 (jw_get ha) rfl rfl hd kk2
        · cases hlz
      | false =>
        rw [hi, cond_false] at hlz
        have hi' : ¬ i < jK0 := fun z => by
          have z2 : Nat.blt i jK0 = true := Nat.ble_eq_true_of_le z
          rw [hi] at z2
          cases z2
        obtain ⟨cell, t1, t2, t3, t4, t5, t6, t7⟩ := hK.2.1 _ _ hlz
        have e1 : jad base ca i = ca (i - jK0) := if_neg hi'
        rw [e1]
        exact W.alen (n := Int32.ofNat lz.length) hx hb (by rw [hS.2.1 _ (Array.getElem?_eq_some_iff.mp t1).1 t7]; exact t1) t2 t5 rfl rfl hd kk2
    · cases he
  · cases he
theorem js_ast (hx : p.tables.exec = Jvm.exec) (hb : c.code = cc) (hK : jK xs ca cT D A s s.heap) (hA : ∀ q, base ≤ q → A q) (hd : decode cc pc = .ok (.iastore, 1)) (he : jiast (pc + 1) L st h = some (.inl x')) (kk : jWs p l e R s m args below meth c Q base ca cT D A nL n0 s0 x') : jWs p l e R s m args below meth c Q base ca cT D A nL n0 s0 (pc, L, st, h) := by
  unfold jiast at he
  split at he
  · rename_i x j i r
    split at he
    · rename_i a ha
      split at he
      · rename_i hc
        obtain ⟨t0, la⟩ := a
        obtain ⟨rfl, c1, c2⟩ := hc
        cases he
        intro hz H locs ls cells slots h1 h2 hl hP hS
        show W p l e R s m args below meth c H locs cells slots Q (F0 m pc ls (.int x :: .int j :: .ref (jad base ca i) :: r.map (jv (jad base ca))))
        rw [jad_lt (jlt hz ha)]
        refine va_iast (D := D) (tys := jtys cT) hx hb hK.1 hP (jw_D hA) hS i 0 (jw_get ha) rfl (fun q => q.elim c1 (fun z => by omega)) hd (fun H1 locs1 hP1 _ hS1 => ?_)
        rw [jupd la _ x c2, show la.length = (la.set j.toNatClampNeg x).length by rw [List.length_set]] at hP1
        have hP2 : va_P D vwCl ((jw base cT (jad base ca) h).set i (base + i, jtr cT (jad base ca) (.inr (.inl (0, la.set j.toNatClampNeg x))))) H1 := hP1
        rw [jw_set] at hP2
        exact kk (by rw [List.length_set]; exact hz) H1 locs1 ls cells slots (by rw [List.length_set]; exact h1) (by rw [jsl_set ha (by simp [jsz])]; exact h2) hl hP2 hS1
      · cases he
    · cases he
  · cases he
end JH
