theorem jK_mv {xs : List Int32} {ca : Nat → Nat} {cT : Nat → ClassId} {D : va_G} {A : Nat → Prop} {u U : State} {H H1 : Heap} (hvm : u.vm.Alike U.vm) (h1 : ∀ (o : String) (k : Nat) (tx : String) (a : Nat), vk_R o k tx a u → vk_R o k tx a U) (h2 : ∀ (a : String) (i : Nat) (x : MethodName) (h : String), va_Nw (.methodLinkNest a i x h) u → va_Nw (.methodLinkNest a i x h) U)
    (hq : ∀ a : Nat, a < H.size → ¬ A a → H1[a]? = H[a]?) (h : jK xs ca cT D A u H) : jK xs ca cT D A U H1 := by
  obtain ⟨k1, k2, k3, k4, k5, k6, k7, k8, k9, k10, k11⟩ := h
  exact ⟨k1.moved hvm, fun k l hk => ((k2 k l hk).kept hq).moved hvm, fun k q hk => ((k3 k q hk).kept hq).moved hvm, fun k q hk => ⟨h1 _ _ _ _ (k4 k q hk).1, ((k4 k q hk).2.kept hq).moved hvm⟩, fun k q hk => h2 _ _ _ _ (k5 k q hk), k6.moved hvm, k7.moved hvm, over_moved hvm k8, fun k l hk hl => ⟨((k9 k l hk hl).1.kept hq).moved hvm, ((k9 k l hk hl).2.1.kept hq).moved hvm, ((k9 k l hk hl).2.2.kept hq).moved hvm⟩, (k10.kept hq).moved hvm, k11.elim (fun z => Or.inl ((z.kept hq).moved hvm)) (fun z => Or.inr ((z.kept hq).moved hvm))⟩
theorem jbq_c {i k : Nat} {o e : Option (List Int32)} {P : Prop} (hk : e = some (e.getD [])) {l : List Int32} (h : (bif Nat.beq i (jK0 + k) then e else o) = some l) (h1 : i = jK0 + k → e = some l → P) (h2 : o = some l → P) : P := by
  cases hb : Nat.beq i (jK0 + k) with
  | true => rw [hb] at h; exact h1 (Nat.eq_of_beq_eq_true hb) h
  | false => rw [hb] at h; exact h2 h
theorem jbs_k {i : Nat} {l : List Int32} (h : jbq i = some l) : ∃ k, i = jK0 + (30 + k) ∧ k < 7 ∧ jbs (30 + k) = some l := by
  unfold jbq at h
  refine jbq_c rfl h (fun a b => ⟨0, a, by decide, b⟩) fun h => ?_
  refine jbq_c rfl h (fun a b => ⟨1, a, by decide, b⟩) fun h => ?_
  refine jbq_c rfl h (fun a b => ⟨2, a, by decide, b⟩) fun h => ?_
  refine jbq_c rfl h (fun a b => ⟨3, a, by decide, b⟩) fun h => ?_
  refine jbq_c rfl h (fun a b => ⟨4, a, by decide, b⟩) fun h => ?_
  refine jbq_c rfl h (fun a b => ⟨5, a, by decide, b⟩) fun h => ?_
  refine jbq_c rfl h (fun a b => ⟨6, a, by decide, b⟩) fun h => ?_
  cases h
theorem jadd20 (k : Nat) : jK0 + (10 + k) + 20 = jK0 + (30 + k) := by
  generalize jK0 = w
  omega
theorem jbs_some {k : Nat} (h : k < 7) : ∃ l, jbs (30 + k) = some l := by
  match k, h with
  | 0, _ => exact ⟨_, rfl⟩
  | 1, _ => exact ⟨_, rfl⟩
  | 2, _ => exact ⟨_, rfl⟩
  | 3, _ => exact ⟨_, rfl⟩
  | 4, _ => exact ⟨_, rfl⟩
  | 5, _ => exact ⟨_, rfl⟩
  | 6, _ => exact ⟨_, rfl⟩
theorem jstq_k {i : Nat} (h : jstq i = true) : ∃ k, i = jK0 + (10 + k) ∧ k < 7 := by
  unfold jstq at h
  rw [Bool.and_eq_true] at h
  have h1 : jK0 + 10 ≤ i := Nat.le_of_ble_eq_true h.1
  have h2 : i < jK0 + 17 := Nat.le_of_ble_eq_true h.2
  generalize jK0 = w at h1 h2 ⊢
  exact ⟨i - (w + 10), by omega, by omega⟩
/-- at a call: the callee's start -/
theorem jK_call {xs : List Int32} {ca : Nat → Nat} {cT : Nat → ClassId} {D : va_G} {A : Nat → Prop} {s U : State} {H : Heap} {locs : List Loc} (h : jK xs ca cT D A s s.heap) (hS : va_S A s.heap H locs) (hU : U.heap = H) (hW : s.WarmedH U.vm) : jK xs ca cT D A U U.heap := by
  rw [hU]
  exact jK_mv hW.alike (fun _ _ _ _ => vk_R.warm hW) (fun _ _ _ _ => va_Nw.warmM hW) hS.2.1 h
theorem jK_blind {xs : List Int32} {ca : Nat → Nat} {cT : Nat → ClassId} {D : va_G} {A : Nat → Prop} {U : State} {g : JFrame} {mk : MethodId} {a : Array Value} (h : jK xs ca cT D A U U.heap) : jK xs ca cT D A (U.calling g mk a) (U.calling g mk a).heap :=
  jK_mv (u := U) (U := U.calling g mk a) (Vm.Alike.refl U.vm) (fun _ _ _ _ => vk_R.same rfl) (fun _ _ _ _ => va_Nw.same rfl rfl) (fun _ _ _ => rfl) h
def jfld (G : List Cond) (own : String) (i a b : Nat) : Prop := ∃ q : vw_C, vwCl[a]? = some q ∧ b < q.2.2 ∧ (∀ w ∈ u_ws q.1 q.2.1 q.2.2, w ∈ G) ∧ Cond.fieldLink own i (q.2.1 b).1 (q.2.1 b).2.1 (q.2.1 b).2.2.1 ∈ G
def jtyc (c : Nat) (ty : FieldType) : Prop := (c = 0 ∧ ty = .int) ∨ (c = 1 ∧ ty = .boolean) ∨ (c = 2 ∧ ((∃ n, ty = .object n) ∨ ∃ t, ty = .array t))
def jfput (G : List Cond) (own : String) (ini : Prop) (i a b c : Nat) : Prop := ∃ (q : vw_C) (ty0 : Nat → FieldType), vwCl[a]? = some q ∧ b < q.2.2 ∧ (∀ w ∈ u_ws q.1 q.2.1 q.2.2, w ∈ G) ∧ Cond.fieldLink own i (q.2.1 b).1 (q.2.1 b).2.1 (q.2.1 b).2.2.1 ∈ G ∧
  (∀ k, k < q.2.2 → parseFieldDescriptor (q.2.1 k).2.2.1 = some (ty0 k)) ∧ (∀ x, x < q.2.2 → ∀ y, y < q.2.2 → x ≠ y → (q.2.1 x).2.1 ≠ (q.2.1 y).2.1) ∧ jtyc c (ty0 b) ∧ ((q.2.1 b).2.2.2 = false ∨ ((q.2.1 b).2.2.2 = true ∧ ini ∧ (q.2.1 b).1 = own))
theorem jfit_ok {ty : Nat} {v : Value} (h : jfit ty v = true) (ad : Nat → Nat) {t : FieldType} (ht : jtyc ty t) : narrow t (jv ad v) = jv ad v ∧ fits t (jv ad v) = true := by
  cases v with
  | int x =>
    have h' : (ty == 0 || (ty == 1 && decide (x = 0 ∨ x = 1))) = true := h
    simp only [Bool.or_eq_true, Bool.and_eq_true, beq_iff_eq, decide_eq_true_eq] at h'
    rcases ht with ⟨e, rfl⟩ | ⟨e, rfl⟩ | ⟨e, -⟩
    · exact ⟨rfl, rfl⟩
    · rcases h' with z | ⟨-, rfl | rfl⟩
      · omega
      · exact ⟨by show narrow .boolean (.int 0) = .int 0; decide, by show fits .boolean (.int 0) = true; decide⟩
      · exact ⟨by show narrow .boolean (.int 1) = .int 1; decide, by show fits .boolean (.int 1) = true; decide⟩
    · omega
  | ref x =>
    have h' : (ty == 2) = true := h
    simp only [beq_iff_eq] at h'
    rcases ht with ⟨e, rfl⟩ | ⟨e, rfl⟩ | ⟨e, ⟨n, rfl⟩ | ⟨n, rfl⟩⟩
    · omega
    · omega
    · exact ⟨rfl, rfl⟩
    · exact ⟨rfl, rfl⟩
  | _ => cases h
section JH
variable {p : Program} {l : Launch} {e : Env} {R : Room} {s : State} {m : MethodId} {args : Array Value} {below : List Frame} {meth : Method} {c : Code} {Q : State → Prop} {base : Nat} {ca : Nat → Nat} {cT : Nat → ClassId} {D : va_G} {A : Nat → Prop} {nL n0 s0 : Nat}
variable {cc : ByteArray} {pc t : Nat} {L : List (Nat × Value)} {st : List Value} {h : List jE} {x' : jC} {G Ts : List Cond} {own : String} {xs : List Int32}
theorem jlt {h : List jE} {i : Nat} {y : jE} (hz : h.length ≤ jK0) (hi : h[i]? = some y) : i < jK0 := Nat.lt_of_lt_of_le (List.getElem?_eq_some_iff.mp hi).1 hz
theorem js_get (hx : p.tables.exec = Jvm.exec) (hb : c.code = cc) (hts : ∀ w ∈ Ts, w.before args s = true) (hG : ∀ w ∈ G, w ∈ Ts) (hown : s.vm.findClass own = some m.cls) (hK : jK xs ca cT D A s s.heap) {i a b : Nat} (hd : decode cc pc = .ok (.getfield i, 3)) (hf : jfld G own i a b) (he : jgetf a b (pc + 3) L st h = some (.inl x')) (kk : jWs p l e R s m args below meth c Q base ca cT D A nL n0 s0 x') : jWs p l e R s m args below meth c Q base ca cT D A nL n0 s0 (pc, L, st, h) := by
  obtain ⟨⟨C, T, N⟩, f1, f2, f3, f4⟩ := hf
  unfold jgetf at he
  split at he
  · rename_i j r
    split at he
    · rename_i o ho
      cases hc : (o.1 == a) with
      | false => rw [hc] at he; cases he
      | true =>
        rw [hc] at he
        obtain ⟨ci, fs⟩ := o
        cases eq_of_beq hc
        cases hv : fs[b]? with
        | none => simp only [cond_true, hv] at he; cases he
        | some v =>
          simp only [cond_true, hv] at he
          cases he
          intro hz H locs ls cells slots h1 h2 hl hP hS
          have e1 : jad base ca j = base + j := jad_lt (jlt hz ho)
          show W p l e R s m args below meth c H locs cells slots Q (F0 m pc ls (.ref (jad base ca j) :: r.map (jv (jad base ca))))
          rw [e1]
          exact va_get (D := D) (tys := jtys cT) (C := C) (T := T) (N := N) (ref := (T b).1) (v := jv (jad base ca) v) hx hb hts (fun w hw => hG w (f3 w hw)) hown hK.1 hP j (jw_get ho) f1 b f2 (hts _ (hG _ f4)) (fun _ h9 => h9) (by rw [List.getElem?_map, hv]; rfl) hd (kk hz H locs ls cells slots h1 h2 hl hP hS)
    · cases he
  · cases he
theorem js_put (hx : p.tables.exec = Jvm.exec) (hb : c.code = cc) (hts : ∀ w ∈ Ts, w.before args s = true) (hG : ∀ w ∈ G, w ∈ Ts) (hown : s.vm.findClass own = some m.cls) (hK : jK xs ca cT D A s s.heap) (hA : ∀ q, base ≤ q → A q) {ini : Prop} (hin : ini → meth.name = "<init>") {i a b q : Nat} (hd : decode cc pc = .ok (.putfield i, 3)) (hf : jfput G own ini i a b q) (he : jputf a b q (pc + 3) L st h = some (.inl x')) (kk : jWs p l e R s m args below meth c Q base ca cT D A nL n0 s0 x') : jWs p l e R s m args below meth c Q base ca cT D A nL n0 s0 (pc, L, st, h) := by
  obtain ⟨⟨C, T, N⟩, ty0, f1, f2, f3, f4, f5, f6, f7, f8⟩ := hf
  unfold jputf at he
  split at he
  · rename_i v j r
    split at he
    · rename_i o ho
      cases hc : (o.1 == a && (Nat.blt b o.2.length && jfit q v)) with
      | false => rw [hc] at he; cases he
      | true =>
        rw [hc] at he
        simp only [Bool.and_eq_true, beq_iff_eq] at hc
        obtain ⟨ci, fs⟩ := o
        obtain ⟨rfl, hlen, hfit⟩ := hc
        have hlen : b < fs.length := Nat.le_of_ble_eq_true hlen
        cases he
        intro hz H locs ls cells slots h1 h2 hl hP hS
        have e1 : jad base ca j = base + j := jad_lt (jlt hz ho)
        obtain ⟨g1, g2⟩ := jfit_ok hfit (jad base ca) f7
        have hset : (jw base cT (jad base ca) h).set j (base + j, .inr (ci, (fs.map (jv (jad base ca))).set b (jv (jad base ca) v))) = jw base cT (jad base ca) (h.set j (.inl (ci, fs.set b v))) := by
          rw [← jw_set]
          show _ = (jw base cT (jad base ca) h).set j (base + j, .inr (ci, (fs.set b v).map (jv (jad base ca))))
          rw [List.map_set]
        have hz2 : (h.set j (.inl (ci, fs.set b v))).length ≤ jK0 := by rw [List.length_set]; exact hz
        have h12 : cells + n0 = (h.set j (.inl (ci, fs.set b v))).length := by rw [List.length_set]; exact h1
        have h22 : slots + s0 = jsl (h.set j (.inl (ci, fs.set b v))) := by rw [jsl_set ho (by simp [jsz])]; exact h2
        show W p l e R s m args below meth c H locs cells slots Q (F0 m pc ls (jv (jad base ca) v :: .ref (jad base ca j) :: r.map (jv (jad base ca))))
        rw [e1]
        have k2 : ∀ (H1 : Heap) (locs1 : List Loc), va_P D vwCl ((jw base cT (jad base ca) h).set j (base + j, .inr (ci, (fs.map (jv (jad base ca))).set b (jv (jad base ca) v)))) H1 → va_D A ((jw base cT (jad base ca) h).set j (base + j, .inr (ci, (fs.map (jv (jad base ca))).set b (jv (jad base ca) v)))) → va_S A s.heap H1 locs1 → W p l e R s m args below meth c H1 locs1 cells slots Q (F0 m (pc + 3) ls (r.map (jv (jad base ca)))) := by
          intro H1 locs1 hP1 _ hS1
          rw [hset] at hP1
          exact kk hz2 H1 locs1 ls cells slots h12 h22 hl hP1 hS1
        rcases f8 with f8 | ⟨f8, f9, f10⟩
        · exact va_put (D := D) (tys := jtys cT) (C := C) (T := T) (N := N) (ref := (T b).1) (ty := ty0 b) hx hb hts (fun w hw => hG w (f3 w hw)) ty0 f5 f6 hown hK.1 hP (jw_D hA) hS j (jw_get ho) f1 b f2 (hts _ (hG _ f4)) (fun _ h9 => h9) f8 (f5 b f2) g1 g2 (by rw [List.length_map]; exact hlen) hd k2
        · exact va_putF (D := D) (tys := jtys cT) (C := C) (T := T) (N := N) (ref := (T b).1) (ty := ty0 b) hx hb hts (fun w hw => hG w (f3 w hw)) ty0 f5 f6 hown hK.1 hP (jw_D hA) hS j (jw_get ho) f1 b f2 (hts _ (hG _ f4)) (fun _ h9 => h9) f8 (hin f9) f10 (f5 b f2) g1 g2 (by rw [List.length_map]; exact hlen) hd k2
    · cases he
  · cases he
theorem js_ald (hx : p.tables.exec = Jvm.exec) (hb : c.code = cc) (hK : jK xs ca cT D A s s.heap) (hd : decode cc pc = .ok (.iaload, 1)) (he : jiald (jcs xs) (pc + 1) L st h = some (.inl x')) (kk : jWs p l e R s m args below meth c Q base ca cT D A nL n0 s0 x') : jWs p l e R s m args below meth c Q base ca cT D A nL n0 s0 (pc, L, st, h) := by
  unfold jiald at he
  split at he
  · rename_i j i r
    split at he
    · rename_i lz hlz
      split at he
      · rename_i x hx9
        cases he
        obtain ⟨v1, v2⟩ := jvp hx9
        intro hz H locs ls cells slots h1 h2 hl hP hS
        show W p l e R s m args below meth c H locs cells slots Q (F0 m pc ls (.int j :: .ref (jad base ca i) :: r.map (jv (jad base ca))))
        have kk2 := kk hz H locs ls cells slots h1 h2 hl hP hS
        unfold jints at hlz
        cases hi : Nat.blt i jK0 with
        | true =>
          rw [hi, cond_true] at hlz
          have hi' : i < jK0 := Nat.le_of_ble_eq_true hi
          split at hlz
          · rename_i a ha
            cases hc : (a.1 == 0) with
            | false => rw [hc] at hlz; cases hlz
            | true =>
              rw [hc] at hlz
              cases hlz
              obtain ⟨t0, la⟩ := a
              cases eq_of_beq hc
              rw [jad_lt hi']
              exact va_iald (D := D) (tys := jtys cT) hx hb hK.1 hP i 0 (jw_get ha) rfl v1 hd (by rw [v2]; exact kk2)
          · cases hlz
        | false =>
          rw [hi, cond_false] at hlz
          have hi' : ¬ i < jK0 := fun z => by
            have z2 : Nat.blt i jK0 = true := Nat.ble_eq_true_of_le z
            rw [hi] at z2
            cases z2
          obtain ⟨cell, t1, t2, t3, t4, t5, t6, t7⟩ := hK.2.1 _ _ hlz
          have hlt : j.toNatClampNeg < lz.length := Nat.not_le.mp fun q => v1 (Or.inr q)
          have e1 : jad base ca i = ca (i - jK0) := if_neg hi'
          rw [e1]
          exact W.iald (v := .int x) hx hb (by rw [hS.2.1 _ (Array.getElem?_eq_some_iff.mp t1).1 t7]; exact t1) t2 t3 (fun q => q.elim (fun z => v1 (Or.inl z)) (fun z => by omega)) ((t6 _ hlt).trans (congrArg (fun z => some (Value.int z)) v2)) rfl rfl hd kk2
      · cases he
    · cases he
  · cases he
theorem js_len (hx : p.tables.exec = Jvm.exec) (hb : c.code = cc) (hK : jK xs ca cT D A s s.heap) (hd : decode cc pc = .ok (.arraylength, 1)) (he : jalen (jcs xs) (pc + 1) L st h = some (.inl x')) (kk : jWs p l e R s m args below meth c Q base ca cT D A nL n0 s0 x') : jWs p l e R s m args below meth c Q base ca cT D A nL n0 s0 (pc, L, st, h) := by
  unfold jalen at he
  split at he
  · rename_i i r
    split at he
    · rename_i lz hlz
      cases he
      intro hz H locs ls cells slots h1 h2 hl hP hS
      show W p l e R s m args below meth c H locs cells slots Q (F0 m pc ls (.ref (jad base ca i) :: r.map (jv (jad base ca))))
      have kk2 := kk hz H locs ls cells slots h1 h2 hl hP hS
      unfold jints at hlz
      cases hi : Nat.blt i jK0 with
      | true =>
        rw [hi, cond_true] at hlz
        have hi' : i < jK0 := Nat.le_of_ble_eq_true hi
        split at hlz
        · rename_i a ha
          cases hc : (a.1 == 0) with
          | false => rw [hc] at hlz; cases hlz
          | true =>
            rw [hc] at hlz
            cases hlz
            obtain ⟨t0, la⟩ := a
            cases eq_of_beq hc
            rw [jad_lt hi']
            exact va_alen (D := D) (tys := jtys cT) hx hb hK.1 hP i 0 (jw_get ha) rfl rfl hd kk2
        · cases hlz
      | false =>
        rw [hi, cond_false] at hlz
        have hi' : ¬ i < jK0 := fun z => by
          have z2 : Nat.blt i jK0 = true := Nat.ble_eq_true_of_le z
          rw [hi] at z2
          cases z2
        obtain ⟨cell, t1, t2, t3, t4, t5, t6, t7⟩ := hK.2.1 _ _ hlz
        have e1 : jad base ca i = ca (i - jK0) := if_neg hi'
        rw [e1]
        exact W.alen (n := Int32.ofNat lz.length) hx hb (by rw [hS.2.1 _ (Array.getElem?_eq_some_iff.mp t1).1 t7]; exact t1) t2 t5 rfl rfl hd kk2
    · split at he
      · rename_i lz hlz
        cases he
        intro hz H locs ls cells slots h1 h2 hl hP hS
        show W p l e R s m args below meth c H locs cells slots Q (F0 m pc ls (.ref (jad base ca i) :: r.map (jv (jad base ca))))
        have kk2 := kk hz H locs ls cells slots h1 h2 hl hP hS
        obtain ⟨k, e1, k1, k2⟩ := jbs_k hlz
        have e2 : jad base ca i = ca (30 + k) := by rw [e1, jad_k]
        rw [e2]
        exact va_tlen hx hb (hK.2.2.2.2.2.2.2.2.1 k lz k1 k2).2.2 hS rfl hd kk2
      · cases he
  · cases he
theorem js_bald (hx : p.tables.exec = Jvm.exec) (hb : c.code = cc) (hK : jK xs ca cT D A s s.heap) (hd : decode cc pc = .ok (.baload, 1)) (he : jbald (pc + 1) L st h = some (.inl x')) (kk : jWs p l e R s m args below meth c Q base ca cT D A nL n0 s0 x') : jWs p l e R s m args below meth c Q base ca cT D A nL n0 s0 (pc, L, st, h) := by
  unfold jbald at he
  split at he
  · rename_i j i r
    split at he
    · rename_i lz hlz
      split at he
      · rename_i x hx9
        cases he
        obtain ⟨v1, v2⟩ := jvp hx9
        intro hz H locs ls cells slots h1 h2 hl hP hS
        show W p l e R s m args below meth c H locs cells slots Q (F0 m pc ls (.int j :: .ref (jad base ca i) :: r.map (jv (jad base ca))))
        have kk2 := kk hz H locs ls cells slots h1 h2 hl hP hS
        obtain ⟨k, e1, k1, k2⟩ := jbs_k hlz
        have e2 : jad base ca i = ca (30 + k) := by rw [e1, jad_k]
        rw [e2]
        exact va_tb hx hb (hK.2.2.2.2.2.2.2.2.1 k lz k1 k2).2.2 hS (v := .int x) v1 (congrArg Value.int v2) hd kk2
      · cases he
    · cases he
  · cases he
theorem js_getk (hx : p.tables.exec = Jvm.exec) (hb : c.code = cc) (hts : ∀ w ∈ Ts, w.before args s = true) (hG : ∀ w ∈ G, w ∈ Ts) (hown : s.vm.findClass own = some m.cls) (hK : jK xs ca cT D A s s.heap) {i b : Nat} (hd : decode cc pc = .ok (.getfield i, 3)) (hf : (b = 0 ∧ Cond.fieldLink own i "java/lang/String" "value" "[B" ∈ G) ∨ (b = 1 ∧ Cond.fieldLink own i "java/lang/String" "coder" "B" ∈ G)) (he : jgetk b (pc + 3) L st h = some (.inl x')) (kk : jWs p l e R s m args below meth c Q base ca cT D A nL n0 s0 x') : jWs p l e R s m args below meth c Q base ca cT D A nL n0 s0 (pc, L, st, h) := by
  unfold jgetk at he
  split at he
  · rename_i j r
    cases hq : jstq j with
    | false => rw [hq] at he; cases he
    | true =>
      rw [hq, cond_true] at he
      obtain ⟨k, e1, k1⟩ := jstq_k hq
      obtain ⟨lz, k2⟩ := jbs_some k1
      have e2 : jad base ca j = ca (10 + k) := by rw [e1, jad_k]
      rcases hf with ⟨rfl, hw⟩ | ⟨rfl, hw⟩
      · have he : jgo (pc + 3) L (.ref (j + 20) :: r) h = some (.inl x') := he
        cases he
        intro hz H locs ls cells slots h1 h2 hl hP hS
        have kk2 : W p l e R s m args below meth c H locs cells slots Q (F0 m (pc + 3) ls (.ref (jad base ca (j + 20)) :: r.map (jv (jad base ca)))) := kk hz H locs ls cells slots h1 h2 hl hP hS
        show W p l e R s m args below meth c H locs cells slots Q (F0 m pc ls (.ref (jad base ca j) :: r.map (jv (jad base ca))))
        have e3 : jad base ca (j + 20) = ca (30 + k) := by rw [e1, jadd20, jad_k]
        rw [e3] at kk2
        rw [e2]
        exact vk_getf hx hb (hK.2.2.2.2.2.2.2.2.1 k lz k1 k2).2.1 hS hown (hts _ (hG _ hw)) (fun _ h9 => h9) hd kk2
      · have he : jgo (pc + 3) L (.int 0 :: r) h = some (.inl x') := he
        cases he
        intro hz H locs ls cells slots h1 h2 hl hP hS
        have kk2 : W p l e R s m args below meth c H locs cells slots Q (F0 m (pc + 3) ls (.int 0 :: r.map (jv (jad base ca)))) := kk hz H locs ls cells slots h1 h2 hl hP hS
        show W p l e R s m args below meth c H locs cells slots Q (F0 m pc ls (.ref (jad base ca j) :: r.map (jv (jad base ca))))
        rw [e2]
        exact vk_getf hx hb (hK.2.2.2.2.2.2.2.2.1 k lz k1 k2).1 hS hown (hts _ (hG _ hw)) (fun _ h9 => h9) hd kk2
  · cases he
theorem js_ast (hx : p.tables.exec = Jvm.exec) (hb : c.code = cc) (hK : jK xs ca cT D A s s.heap) (hA : ∀ q, base ≤ q → A q) (hd : decode cc pc = .ok (.iastore, 1)) (he : jiast (pc + 1) L st h = some (.inl x')) (kk : jWs p l e R s m args below meth c Q base ca cT D A nL n0 s0 x') : jWs p l e R s m args below meth c Q base ca cT D A nL n0 s0 (pc, L, st, h) := by
  unfold jiast at he
  split at he
  · rename_i x j i r
    split at he
    · rename_i a ha
      split at he
      · rename_i hc
        obtain ⟨t0, la⟩ := a
        obtain ⟨rfl, c1, c2⟩ := hc
        cases he
        intro hz H locs ls cells slots h1 h2 hl hP hS
        show W p l e R s m args below meth c H locs cells slots Q (F0 m pc ls (.int x :: .int j :: .ref (jad base ca i) :: r.map (jv (jad base ca))))
        rw [jad_lt (jlt hz ha)]
        refine va_iast (D := D) (tys := jtys cT) hx hb hK.1 hP (jw_D hA) hS i 0 (jw_get ha) rfl (fun q => q.elim c1 (fun z => by omega)) hd (fun H1 locs1 hP1 _ hS1 => ?_)
        rw [jupd la _ x c2, show la.length = (la.set j.toNatClampNeg x).length by rw [List.length_set]] at hP1
        have hP2 : va_P D vwCl ((jw base cT (jad base ca) h).set i (base + i, jtr cT (jad base ca) (.inr (.inl (0, la.set j.toNatClampNeg x))))) H1 := hP1
        rw [jw_set] at hP2
        exact kk (by rw [List.length_set]; exact hz) H1 locs1 ls cells slots (by rw [List.length_set]; exact h1) (by rw [jsl_set ha (by simp [jsz])]; exact h2) hl hP2 hS1
      · cases he
    · cases he
  · cases he
end JH
