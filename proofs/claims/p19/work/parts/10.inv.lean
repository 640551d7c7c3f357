/-- what is known of the methods that may be called at depth d -/
def jKnown (l : Launch) (G : List Cond) (xs : List Int32) (base : Nat) (ca : Nat → Nat) (cT : Nat → ClassId) (D : va_G) (A : Nat → Prop) (mt : Nat → Option jM) (d : Nat) (call : Nat → List Value → List jE → Option jR) : Prop :=
  ∀ (a : Nat) (q : jM) (vs : List Value) (h : List jE) (r : jR), mt a = some q → call a vs h = some r → h.length ≤ jK0 → jMet l G xs base ca cT D A d q vs h r ∧ h.length ≤ r.2.length ∧ jsl h ≤ jsl r.2 ∧ r.2.length ≤ jK0
section JZ
variable {p : Program} {l : Launch} {e : Env} {R : Room} {s : State} {m : MethodId} {args : Array Value} {below : List Frame} {meth : Method} {c : Code} {Q : State → Prop} {base : Nat} {ca : Nat → Nat} {cT : Nat → ClassId} {D : va_G} {A : Nat → Prop} {nL n0 s0 : Nat}
variable {cc : ByteArray} {pc t : Nat} {L : List (Nat × Value)} {st : List Value} {h : List jE} {x' : jC} {G Ts : List Cond} {own : String} {xs : List Int32} {H : Heap} {locs : List Loc} {cells slots : Nat}
theorem jstk {st : List Value} {b i : Nat} {As : List Value} (ad : Nat → Nat) (h : (st.take b).reverse = .ref i :: As) : st.map (jv ad) = (As.map (jv ad)).reverse ++ .ref (ad i) :: (st.drop b).map (jv ad) := by
  have h1 : st.take b = As.reverse ++ [.ref i] := by
    have := congrArg List.reverse h
    rw [List.reverse_reverse] at this
    rw [this, List.reverse_cons]
  have h2 : st = As.reverse ++ [.ref i] ++ st.drop b := by rw [← h1, List.take_append_drop]
  have h3 := congrArg (List.map (jv ad)) h2
  rw [h3, List.map_append, List.map_append, List.map_reverse, List.append_assoc]
  rfl
theorem jstkS {st : List Value} {b : Nat} (ad : Nat → Nat) : st.map (jv ad) = (((st.take b).reverse).map (jv ad)).reverse ++ (st.drop b).map (jv ad) := by
  rw [← List.map_reverse, List.reverse_reverse, ← List.map_append, List.take_append_drop]
theorem js_callV (hx : p.tables.exec = Jvm.exec) (hb : c.code = cc) (hml : c.maxLocals = nL) (hts : ∀ w ∈ Ts, w.before args s = true) (hG : ∀ w ∈ G, w ∈ Ts) (hgd : ∀ w ∈ G, goodWord w = true) (hown : s.vm.findClass own = some m.cls) (hK : jK xs ca cT D A s s.heap) (hbase : s.heap.size = base + n0) {mt : Nat → Option jM} {d : Nat} {call : Nat → List Value → List jE → Option jR} (hM : jKnown l G xs base ca cT D A mt d call) (hfr : d + 1 ≤ R.frames) (hlo : 60 * d + 60 ≤ R.locals) (hA : ∀ q, base ≤ q → A q)
    {i a b ci : Nat} (hd : decode cc pc = .ok (.invokevirtual i, 3)) (hf : jcalV G own mt i a b ci) (he : jinvV call a b ci (pc + 3) L st h = some (.inl x')) (hz0 : h.length ≤ jK0) (hR1 : x'.2.2.2.length ≤ R.cells + n0) (hR2 : jsl x'.2.2.2 ≤ R.slots + s0) (kk : jWs p l e R s m args below meth c Q base ca cT D A nL n0 s0 x') : jWs p l e R s m args below meth c Q base ca cT D A nL n0 s0 (pc, L, st, h) := by
  obtain ⟨q, z, f1, f2, f3, f4, f5, f6, f7, f8⟩ := hf
  unfold jinvV at he
  split at he
  · rename_i j As hrv
    split at he
    · rename_i o ho
      cases hc : (o.1 == ci) with
      | false => rw [hc] at he; cases he
      | true =>
        rw [hc, cond_true] at he
        obtain ⟨cj, fs⟩ := o
        cases eq_of_beq hc
        obtain ⟨r, g1, g2, g3, rfl⟩ := jinv_ret he
        obtain ⟨M, m1, m2, m3⟩ := hM a q _ h r f1 g3 hz0
        rw [hrv] at M
        have hR1 : r.2.length ≤ R.cells + n0 := hR1
        have hR2 : jsl r.2 ≤ R.slots + s0 := hR2
        intro hz H locs ls cells slots h1 h2 hl hP hS
        have h1 : cells + n0 = h.length := h1
        have h2 : slots + s0 = jsl h := h2
        refine j_sized fun hz9 => ?_
        have hsz := j_size hbase h1 hP hS hz9
        show W p l e R s m args below meth c H locs cells slots Q (F0 m pc ls (st.map (jv (jad base ca))))
        have e1 : jad base ca j = base + j := jad_lt (jlt hz ho)
        have hlen : As.length = b - 1 := by
          have := congrArg List.length hrv
          rw [List.length_reverse, List.length_take, List.length_cons] at this
          omega
        rw [jstk (jad base ca) hrv, e1]
        have hpre : ∀ U : State, U.heap = H → s.WarmedH U.vm → va_Pc ((Value.ref j :: As).map (jv (jad base ca))) (jPc xs base ca cT D A h) (Value.ref (base + j) :: As.map (jv (jad base ca))).toArray U := fun U hU hW => by
          have := j_pre (vs := Value.ref j :: As) hK hP hS hsz hU hW
          have e2 : (Value.ref j :: As).map (jv (jad base ca)) = Value.ref (base + j) :: As.map (jv (jad base ca)) := by
            show Value.ref (jad base ca j) :: _ = _
            rw [e1]
          rwa [e2] at this ⊢
        have run := va_runV (p := p) (l := l) (e := e) (R := R) (below := below) (meth := meth) (n := b - 1) (mc := r.2.length - h.length) (ms := jsl r.2 - jsl h) (cells := cells) (slots := slots) (locs := locs) (C := q.2.1.cls) (As := As.map (jv (jad base ca))) (b := base + j) (rest := (st.drop b).map (jv (jad base ca))) (g := F0 m pc ls ((As.map (jv (jad base ca))).reverse ++ .ref (base + j) :: (st.drop b).map (jv (jad base ca)))) ⟨hx, hb, hml, hown, hts⟩ M ⟨j_callB (n := b - 1) hts hG hgd f4 f6 hfr hlo, hts _ (hG _ f7), hts _ (hG _ f8)⟩ ⟨jPc_blind, by
            have := va_recv (q0 := j) hK.1 hP f2 (jw_get ho)
            rwa [f3] at this, hpre⟩ rfl (by rw [List.length_map]; exact hlen) hl.1 rfl (lv_room (by rw [jv_sum]; exact g2)) hd ⟨by omega, by omega⟩
        refine j_ret run hS (fun H1 locs1 hP1 hS1 => ?_)
        have k2 := kk m3 H1 locs1 ls (cells + (r.2.length - h.length)) (slots + (jsl r.2 - jsl h)) (by show _ = r.2.length; omega) (by show _ = jsl r.2; omega) hl hP1 hS1
        have k3 : W p l e R s m args below meth c H1 locs1 (cells + (r.2.length - h.length)) (slots + (jsl r.2 - jsl h)) Q (F0 m (pc + 3) ls ((r.1.toList ++ st.drop b).map (jv (jad base ca)))) := k2
        rw [jmapO] at k3
        exact k3
    · cases he
  · cases he
theorem js_callK (hx : p.tables.exec = Jvm.exec) (hb : c.code = cc) (hml : c.maxLocals = nL) (hts : ∀ w ∈ Ts, w.before args s = true) (hG : ∀ w ∈ G, w ∈ Ts) (hgd : ∀ w ∈ G, goodWord w = true) (hown : s.vm.findClass own = some m.cls) (hK : jK xs ca cT D A s s.heap) (hbase : s.heap.size = base + n0) {mt : Nat → Option jM} {d : Nat} {call : Nat → List Value → List jE → Option jR} (hM : jKnown l G xs base ca cT D A mt d call) (hfr : d + 1 ≤ R.frames) (hlo : 60 * d + 60 ≤ R.locals) (hA : ∀ q, base ≤ q → A q)
    {i a b : Nat} (hd : decode cc pc = .ok (.invokevirtual i, 3)) (hf : jcalK G own mt i a b) (he : jinvK call a b (pc + 3) L st h = some (.inl x')) (hz0 : h.length ≤ jK0) (hR1 : x'.2.2.2.length ≤ R.cells + n0) (hR2 : jsl x'.2.2.2 ≤ R.slots + s0) (kk : jWs p l e R s m args below meth c Q base ca cT D A nL n0 s0 x') : jWs p l e R s m args below meth c Q base ca cT D A nL n0 s0 (pc, L, st, h) := by
  obtain ⟨q, f1, f3, f4, f5, f6, f7, f8⟩ := hf
  unfold jinvK at he
  split at he
  · rename_i j As hrv
    cases hc : jstq j with
    | false => rw [hc] at he; cases he
    | true =>
        rw [hc, cond_true] at he
        obtain ⟨kq, hkq, hk1⟩ := jstq_k hc
        obtain ⟨r, g1, g2, g3, rfl⟩ := jinv_ret he
        obtain ⟨M, m1, m2, m3⟩ := hM a q _ h r f1 g3 hz0
        rw [hrv] at M
        have hR1 : r.2.length ≤ R.cells + n0 := hR1
        have hR2 : jsl r.2 ≤ R.slots + s0 := hR2
        intro hz H locs ls cells slots h1 h2 hl hP hS
        have h1 : cells + n0 = h.length := h1
        have h2 : slots + s0 = jsl h := h2
        refine j_sized fun hz9 => ?_
        have hsz := j_size hbase h1 hP hS hz9
        show W p l e R s m args below meth c H locs cells slots Q (F0 m pc ls (st.map (jv (jad base ca))))
        have e1 : jad base ca j = ca (10 + kq) := by rw [hkq, jad_k]
        have hlen : As.length = b - 1 := by
          have := congrArg List.length hrv
          rw [List.length_reverse, List.length_take, List.length_cons] at this
          omega
        rw [jstk (jad base ca) hrv, e1]
        have hpre : ∀ U : State, U.heap = H → s.WarmedH U.vm → va_Pc ((Value.ref j :: As).map (jv (jad base ca))) (jPc xs base ca cT D A h) (Value.ref (ca (10 + kq)) :: As.map (jv (jad base ca))).toArray U := fun U hU hW => by
          have := j_pre (vs := Value.ref j :: As) hK hP hS hsz hU hW
          have e2 : (Value.ref j :: As).map (jv (jad base ca)) = Value.ref (ca (10 + kq)) :: As.map (jv (jad base ca)) := by
            show Value.ref (jad base ca j) :: _ = _
            rw [e1]
          rwa [e2] at this ⊢
        have run := va_runV (p := p) (l := l) (e := e) (R := R) (below := below) (meth := meth) (n := b - 1) (mc := r.2.length - h.length) (ms := jsl r.2 - jsl h) (cells := cells) (slots := slots) (locs := locs) (C := q.2.1.cls) (As := As.map (jv (jad base ca))) (b := ca (10 + kq)) (rest := (st.drop b).map (jv (jad base ca))) (g := F0 m pc ls ((As.map (jv (jad base ca))).reverse ++ .ref (ca (10 + kq)) :: (st.drop b).map (jv (jad base ca)))) ⟨hx, hb, hml, hown, hts⟩ M ⟨j_callB (n := b - 1) hts hG hgd f4 f6 hfr hlo, hts _ (hG _ f7), hts _ (hG _ f8)⟩ ⟨jPc_blind, by
            obtain ⟨qs, hqs⟩ : ∃ qs, jstr[kq]? = some qs := ⟨_, List.getElem?_eq_getElem (by show kq < 7; exact hk1)⟩
            obtain ⟨cell, z1, z2, z3, -⟩ := (hK.2.2.2.1 kq qs hqs).2.kept hS.2.1
            rw [f3]
            exact ⟨cell, z1, z2, z3⟩, hpre⟩ rfl (by rw [List.length_map]; exact hlen) hl.1 rfl (lv_room (by rw [jv_sum]; exact g2)) hd ⟨by omega, by omega⟩
        refine j_ret run hS (fun H1 locs1 hP1 hS1 => ?_)
        have k2 := kk m3 H1 locs1 ls (cells + (r.2.length - h.length)) (slots + (jsl r.2 - jsl h)) (by show _ = r.2.length; omega) (by show _ = jsl r.2; omega) hl hP1 hS1
        have k3 : W p l e R s m args below meth c H1 locs1 (cells + (r.2.length - h.length)) (slots + (jsl r.2 - jsl h)) Q (F0 m (pc + 3) ls ((r.1.toList ++ st.drop b).map (jv (jad base ca)))) := k2
        rw [jmapO] at k3
        exact k3
  · cases he
theorem js_callS (hx : p.tables.exec = Jvm.exec) (hb : c.code = cc) (hml : c.maxLocals = nL) (hts : ∀ w ∈ Ts, w.before args s = true) (hG : ∀ w ∈ G, w ∈ Ts) (hgd : ∀ w ∈ G, goodWord w = true) (hown : s.vm.findClass own = some m.cls) (hK : jK xs ca cT D A s s.heap) (hbase : s.heap.size = base + n0) {mt : Nat → Option jM} {d : Nat} {call : Nat → List Value → List jE → Option jR} (hM : jKnown l G xs base ca cT D A mt d call) (hfr : d + 1 ≤ R.frames) (hlo : 60 * d + 60 ≤ R.locals)
    {i a b : Nat} (hd : decode cc pc = .ok (.invokestatic i, 3)) (hf : jcalS G own mt i a b) (he : jinv call a b (pc + 3) L st h = some (.inl x')) (hz0 : h.length ≤ jK0) (hR1 : x'.2.2.2.length ≤ R.cells + n0) (hR2 : jsl x'.2.2.2 ≤ R.slots + s0) (kk : jWs p l e R s m args below meth c Q base ca cT D A nL n0 s0 x') : jWs p l e R s m args below meth c Q base ca cT D A nL n0 s0 (pc, L, st, h) := by
  obtain ⟨q, f1, f4, f6, f7⟩ := hf
  obtain ⟨r, g1, g2, g3, rfl⟩ := jinv_ret he
  obtain ⟨M, m1, m2, m3⟩ := hM a q _ h r f1 g3 hz0
  have hR1 : r.2.length ≤ R.cells + n0 := hR1
  have hR2 : jsl r.2 ≤ R.slots + s0 := hR2
  intro hz H locs ls cells slots h1 h2 hl hP hS
  have h1 : cells + n0 = h.length := h1
  have h2 : slots + s0 = jsl h := h2
  refine j_sized fun hz9 => ?_
  have hsz := j_size hbase h1 hP hS hz9
  show W p l e R s m args below meth c H locs cells slots Q (F0 m pc ls (st.map (jv (jad base ca))))
  rw [jstkS (b := b) (jad base ca)]
  have run := va_runS (p := p) (l := l) (e := e) (R := R) (below := below) (meth := meth) (n := b) (mc := r.2.length - h.length) (ms := jsl r.2 - jsl h) (cells := cells) (slots := slots) (locs := locs) (As := ((st.take b).reverse).map (jv (jad base ca))) (rest := (st.drop b).map (jv (jad base ca))) (g := F0 m pc ls ((((st.take b).reverse).map (jv (jad base ca))).reverse ++ (st.drop b).map (jv (jad base ca)))) ⟨hx, hb, hml, hown, hts⟩ M ⟨j_callB (n := b) hts hG hgd f4 f6 hfr hlo, hts _ (hG _ f7)⟩ ⟨jPc_blind, fun U hU hW => j_pre hK hP hS hsz hU hW⟩ rfl (by rw [List.length_map, List.length_reverse, List.length_take]; omega) hl.1 rfl (lv_room (by rw [jv_sum]; exact g2)) hd ⟨by omega, by omega⟩
  refine j_ret run hS (fun H1 locs1 hP1 hS1 => ?_)
  have k2 := kk m3 H1 locs1 ls (cells + (r.2.length - h.length)) (slots + (jsl r.2 - jsl h)) (by show _ = r.2.length; omega) (by show _ = jsl r.2; omega) hl hP1 hS1
  have k3 : W p l e R s m args below meth c H1 locs1 (cells + (r.2.length - h.length)) (slots + (jsl r.2 - jsl h)) Q (F0 m (pc + 3) ls ((r.1.toList ++ st.drop b).map (jv (jad base ca)))) := k2
  rw [jmapO] at k3
  exact k3
theorem js_callI (hx : p.tables.exec = Jvm.exec) (hb : c.code = cc) (hml : c.maxLocals = nL) (hts : ∀ w ∈ Ts, w.before args s = true) (hG : ∀ w ∈ G, w ∈ Ts) (hgd : ∀ w ∈ G, goodWord w = true) (hown : s.vm.findClass own = some m.cls) (hK : jK xs ca cT D A s s.heap) (hbase : s.heap.size = base + n0) {mt : Nat → Option jM} {d : Nat} {call : Nat → List Value → List jE → Option jR} (hM : jKnown l G xs base ca cT D A mt d call) (hfr : d + 1 ≤ R.frames) (hlo : 60 * d + 60 ≤ R.locals)
    {i a b : Nat} (hd : decode cc pc = .ok (.invokespecial i, 3)) (hf : jcalI G own mt i a b) {j : Nat} {As : List Value} (hrv : (st.take b).reverse = .ref j :: As) (he : jinv call a b (pc + 3) L st h = some (.inl x')) (hz0 : h.length ≤ jK0) (hR1 : x'.2.2.2.length ≤ R.cells + n0) (hR2 : jsl x'.2.2.2 ≤ R.slots + s0) (kk : jWs p l e R s m args below meth c Q base ca cT D A nL n0 s0 x') : jWs p l e R s m args below meth c Q base ca cT D A nL n0 s0 (pc, L, st, h) := by
  obtain ⟨q, f1, f4, f5, f6, f7, f8, f9⟩ := hf
  obtain ⟨r, g1, g2, g3, rfl⟩ := jinv_ret he
  obtain ⟨M, m1, m2, m3⟩ := hM a q _ h r f1 g3 hz0
  rw [hrv] at M
  have hR1 : r.2.length ≤ R.cells + n0 := hR1
  have hR2 : jsl r.2 ≤ R.slots + s0 := hR2
  intro hz H locs ls cells slots h1 h2 hl hP hS
  have h1 : cells + n0 = h.length := h1
  have h2 : slots + s0 = jsl h := h2
  refine j_sized fun hz9 => ?_
  have hsz := j_size hbase h1 hP hS hz9
  show W p l e R s m args below meth c H locs cells slots Q (F0 m pc ls (st.map (jv (jad base ca))))
  have hlen : As.length = b - 1 := by
    have := congrArg List.length hrv
    rw [List.length_reverse, List.length_take, List.length_cons] at this
    omega
  rw [jstk (jad base ca) hrv]
  obtain ⟨y, q⟩ := q
  obtain ⟨y0, cc', maxL', ret', nn, own'⟩ := q
  have f7 : ret' = none := f7
  subst f7
  have run : va_Run p l e R s m args below meth c H locs cells slots (r.2.length - h.length) (jsl r.2 - jsl h) (F0 m pc ls ((As.map (jv (jad base ca))).reverse ++ .ref (jad base ca j) :: (st.drop b).map (jv (jad base ca)))) ((st.drop b).map (jv (jad base ca))) (jQ base ca cT D A r (Value.ref (jad base ca j) :: As.map (jv (jad base ca))).toArray) A := by
    rcases f9 with f9 | ⟨k, host, f9⟩
    · exact va_runI (n := b - 1) (cells := cells) (slots := slots) (locs := locs) (As := As.map (jv (jad base ca))) (b := jad base ca j) (rest := (st.drop b).map (jv (jad base ca))) (g := F0 m pc ls ((As.map (jv (jad base ca))).reverse ++ .ref (jad base ca j) :: (st.drop b).map (jv (jad base ca)))) ⟨hx, hb, hml, hown, hts⟩ M ⟨j_callB (n := b - 1) hts hG hgd f4 f9 hfr hlo, f6, hts _ (hG _ f8)⟩ ⟨jPc_blind, fun U hU hW => j_pre (vs := Value.ref j :: As) hK hP hS hsz hU hW⟩ rfl (by rw [List.length_map]; exact hlen) hl.1 rfl (lv_room (by rw [jv_sum]; exact g2)) hd ⟨by omega, by omega⟩
    · obtain ⟨q1, q2, q3, q4⟩ := f4
      exact va_runIN (n := b - 1) (host := host) (cells := cells) (slots := slots) (locs := locs) (As := As.map (jv (jad base ca))) (b := jad base ca j) (rest := (st.drop b).map (jv (jad base ca))) (g := F0 m pc ls ((As.map (jv (jad base ca))).reverse ++ .ref (jad base ca j) :: (st.drop b).map (jv (jad base ca)))) ⟨hx, hb, hml, hown, hts⟩ M ⟨va_cnB (n := b - 1) hts (j_goodIn hG hgd q1) rfl rfl rfl (hK.2.2.2.2.1 k _ f9) (hts _ (hG _ q2)) q3 ⟨hfr, by show 8 + (maxL' + 11) + 60 * d ≤ R.locals; have q4 : maxL' ≤ 40 := q4; omega⟩, f6, hts _ (hG _ f8)⟩ ⟨jPc_blind, fun U hU hW => j_pre (vs := Value.ref j :: As) hK hP hS hsz hU hW⟩ rfl (by rw [List.length_map]; exact hlen) hl.1 rfl (lv_room (by rw [jv_sum]; exact g2)) hd ⟨by omega, by omega⟩
  refine j_ret run hS (fun H1 locs1 hP1 hS1 => ?_)
  have k2 := kk m3 H1 locs1 ls (cells + (r.2.length - h.length)) (slots + (jsl r.2 - jsl h)) (by show _ = r.2.length; omega) (by show _ = jsl r.2; omega) hl hP1 hS1
  have k3 : W p l e R s m args below meth c H1 locs1 (cells + (r.2.length - h.length)) (slots + (jsl r.2 - jsl h)) Q (F0 m (pc + 3) ls ((r.1.toList ++ st.drop b).map (jv (jad base ca)))) := k2
  rw [jmapO] at k3
  exact k3
end JZ
