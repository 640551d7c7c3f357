section
/-- what is known of the methods that may be called at depth d -/
def jKnown (l : Launch) (G : List Cond) (xs : List Int32) (base : Nat) (ca : Nat → Nat) (cT : Nat → ClassId) (D : va_G) (A : Nat → Prop) (mt : Nat → Option jM) (d : Nat) (call : Nat → List Value → List jE → Option jR) : Prop :=
  ∀ (a : Nat) (q : jM) (vs : List Value) (h : List jE) (r : jR), mt a = some q → call a vs h = some r → h.length ≤ jK0 → jMet l G xs base ca cT D A d q vs h r ∧ h.length ≤ r.2.length ∧ jsl h ≤ jsl r.2 ∧ r.2.length ≤ jK0
section JZ
variable {p : Program} {l : Launch} {e : Env} {R : Room} {s : State} {m : MethodId} {args : Array Value} {below : List Frame} {meth : Method} {c : Code} {Q : State → Prop} {base : Nat} {ca : Nat → Nat} {cT : Nat → ClassId} {D : va_G} {A : Nat → Prop} {nL n0 s0 : Nat}
variable {cc : ByteArray} {pc t : Nat} {L : List (Nat × Value)} {st : List Value} {h : List jE} {x' : jC} {G Ts : List Cond} {own : String} {xs : List Int32} {H : Heap} {locs : List Loc} {cells slots : Nat}
theorem jstk {st : List Value} {b i : Nat} {As : List Value} (ad : Nat → Nat) (h : (st.take b).reverse = .ref i :: As) : st.map (jv ad) = (As.map (jv ad)).reverse ++ .ref (ad i) :: (st.drop b).map (jv ad) := by
  have h1 : st.take b = As.reverse ++ [.ref i] := by
    have := congrArg List.reverse h
    rw [List.reverse_reverse] at this
    rw [this, List.reverse_cons]
  have h2 : st = As.reverse ++ [.ref i] ++ st.drop b := by rw [← h1, List.take_append_drop]
  have h3 := congrArg (List.map (jv ad)) h2
  rw [h3, List.map_append, List.map_append, List.map_reverse, List.append_assoc]
  rfl
theorem jstkS {st : List Value} {b : Nat} (ad : Nat → Nat) : st.map (jv ad) = (((st.take b).reverse).map (jv ad)).reverse ++ (st.drop b).map (jv ad) := by
  rw [← List.map_reverse, List.reverse_reverse, ← List.map_append, List.take_append_drop]
theorem js_callV (hx : p.tables.exec = Jvm.exec) (hb : c.code = cc) (hml : c.maxLocals = nL) (hts : ∀ w ∈ Ts, w.before args s = true) (hG : ∀ w ∈ G, w ∈ Ts) (hgd : ∀ w ∈ G, goodWord w = true) (hown : s.vm.findClass own = some m.cls) (hK : jK xs ca cT D A s s.heap) (hbase : s.heap.size = base + n0) {mt : Nat → Option jM} {d : Nat} {call : Nat → List Value → List jE → Option jR} (hM : jKnown l G xs base ca cT D A mt d call) (hfr : d + 1 ≤ R.frames) (hlo : 60 * d + 60 ≤ R.locals) (hA : ∀ q, base ≤ q → A q)
    {i a b ci : Nat} (hd : decode cc pc = .ok (.invokevirtual i, 3)) (hf : jcalV G own mt i a b ci) (he : jinvV call a b ci (pc + 3) L st h = some (.inl x')) (hz0 : h.length ≤ jK0) (hR1 : x'.2.2.2.length ≤ R.cells + n0) (hR2 : jsl x'.2.2.2 ≤ R.slots + s0) (kk : jWs p l e R s m args below meth c Q base ca cT D A nL n0 s0 x') : jWs p l e R s m args below meth c Q base ca cT D A nL n0 s0 (pc, L, st, h) := by
  obtain ⟨q, z, f1, f2, f3, f4, f5, f6, f7, f8⟩ := hf
  unfold jinvV at he
  split at he
  · rename_i j As hrv
    split at he
    · rename_i o ho
      cases hc : (o.1 == ci) with
      | false => rw [hc] at he; cases he
      | true =>
        rw [hc, cond_true] at he
        obtain ⟨cj, fs⟩ := o
        cases eq_of_beq hc
        obtain ⟨r, g1, g2, g3, rfl⟩ := jinv_ret he
        obtain ⟨M, m1, m2, m3⟩ := hM a q _ h r f1 g3 hz0
        rw [hrv] at M
        have hR1 : r.2.length ≤ R.cells + n0 := hR1
        have hR2 : jsl r.2 ≤ R.slots + s0 := hR2
        intro hz H locs ls cells slots h1 h2 hl hP hS
        have h1 : cells + n0 = h.length := h1
        have h2 : slots + s0 = jsl h := h2
        refine j_sized fun hz9 => ?_
        have hsz := j_size hbase h1 hP hS hz9
        show W p l e R s m args below meth c H locs cells slots Q (F0 m pc ls (st.map (jv (jad base ca))))
        have e1 : jad base ca j = base + j := jad_lt (jlt hz ho)
        have hlen : As.length = b - 1 := by
          have := congrArg List.length hrv
          rw [List.length_reverse, List.length_take, List.length_cons] at this
          omega
        rw [jstk (jad base ca) hrv, e1]
        have hpre : ∀ U : State, U.heap = H → s.WarmedH U.vm → va_Pc ((Value.ref j :: As).map (jv (jad base ca))) (jPc xs base ca cT D A h) (Value.ref (base + j) :: As.map (jv (jad base ca))).toArray U := fun U hU hW => by
          have := j_pre (vs := Value.ref j :: As) hK hP hS hsz hU hW
          have e2 : (Value.ref j :: As).map (jv (jad base ca)) = Value.ref (base + j) :: As.map (jv (jad base ca)) := by
            show Value.ref (jad base ca j) :: _ = _
            rw [e1]
          rwa [e2] at this ⊢
        have run := va_runV (p := p) (l := l) (e := e) (R := R) (below := below) (meth := meth) (n := b - 1) (mc := r.2.length - h.length) (ms := jsl r.2 - jsl h) (cells := cells) (slots := slots) (locs := locs) (C := q.2.1.cls) (As := As.map (jv (jad base ca))) (b := base + j) (rest := (st.drop b).map (jv (jad base ca))) (g := F0 m pc ls ((As.map (jv (jad base ca))).reverse ++ .ref (base + j) :: (st.drop b).map (jv (jad base ca)))) ⟨hx, hb, hml, hown, hts⟩ M ⟨j_callB (n := b - 1) hts hG hgd f4 f6 hfr hlo, hts _ (hG _ f7), hts _ (hG _ f8)⟩ ⟨jPc_blind, by
            have := va_recv (q0 := j) hK.1 hP f2 (jw_get ho)
            rwa [f3] at this, hpre⟩ rfl (by rw [List.length_map]; exact hlen) hl.1 rfl (lv_room (by rw [jv_sum]; exact g2)) hd ⟨by omega, by omega⟩
        refine j_ret run hS (fun H1 locs1 hP1 hS1 => ?_)
        have k2 := kk m3 H1 locs1 ls (cells + (r.2.length - h.length)) (slots + (jsl r.2 - jsl h)) (by show _ = r.2.length; omega) (by show _ = jsl r.2; omega) hl hP1 hS1
        have k3 : W p l e R s m args below meth c H1 locs1 (cells + (r.2.length - h.length)) (slots + (jsl r.2 - jsl h)) Q (F0 m (pc + 3) ls ((r.1.toList ++ st.drop b).map (jv (jad base ca)))) := k2
        rw [jmapO] at k3
        exact k3
    · cases he
  · cases he
theorem js_callK (hx : p.tables.exec = Jvm.exec) (hb : c.code = cc) (hml : c.maxLocals = nL) (hts : ∀ w ∈ Ts, w.before args s = true) (hG : ∀ w ∈ G, w ∈ Ts) (hgd : ∀ w ∈ G, goodWord w = true) (hown : s.vm.findClass own = some m.cls) (hK : jK xs ca cT D A s s.heap) (hbase : s.heap.size = base + n0) {mt : Nat → Option jM} {d : Nat} {call : Nat → List Value → List jE → Option jR} (hM : jKnown l G xs base ca cT D A mt d call) (hfr : d + 1 ≤ R.frames) (hlo : 60 * d + 60 ≤ R.locals) (hA : ∀ q, base ≤ q → A q)
    {i a b : Nat} (hd : decode cc pc = .ok (.invokevirtual i, 3)) (hf : jcalK G own mt i a b) (he : jinvK call a b (pc + 3) L st h = some (.inl x')) (hz0 : h.length ≤ jK0) (hR1 : x'.2.2.2.length ≤ R.cells + n0) (hR2 : jsl x'.2.2.2 ≤ R.slots + s0) (kk : jWs p l e R s m args below meth c Q base ca cT D A nL n0 s0 x') : jWs p l e R s m args below meth c Q base ca cT D A nL n0 s0 (pc, L, st, h) := by
  obtain ⟨q, f1, f3, f4, f5, f6, f7, f8⟩ := hf
  unfold jinvK at he
  split at he
  · rename_i j As hrv
    cases hc : jstq j with
    | false => rw [hc] at he; cases he
    | true =>
        rw [hc, cond_true] at he
        obtain ⟨kq, hkq, hk1⟩ := jstq_k hc
        obtain ⟨r, g1, g2, g3, rfl⟩ := jinv_ret he
        obtain ⟨M, m1, m2, m3⟩ := hM a q _ h r f1 g3 hz0
        rw [hrv] at M
        have hR1 : r.2.length ≤ R.cells + n0 := hR1
        have hR2 : jsl r.2 ≤ R.slots + s0 := hR2
        intro hz H locs ls cells slots h1 h2 hl hP hS
        have h1 : cells + n0 = h.length := h1
        have h2 : slots + s0 = jsl h := h2
        refine j_sized fun hz9 => ?_
        have hsz := j_size hbase h1 hP hS hz9
        show W p l e R s m args below meth c H locs cells slots Q (F0 m pc ls (st.map (jv (jad base ca))))
        have e1 : jad base ca j = ca (10 + kq) := by rw [hkq, jad_k]
        have hlen : As.length = b - 1 := by
          have := congrArg List.length hrv
          rw [List.length_reverse, List.length_take, List.length_cons] at this
          omega
        rw [jstk (jad base ca) hrv, e1]
        have hpre : ∀ U : State, U.heap = H → s.WarmedH U.vm → va_Pc ((Value.ref j :: As).map (jv (jad base ca))) (jPc xs base ca cT D A h) (Value.ref (ca (10 + kq)) :: As.map (jv (jad base ca))).toArray U := fun U hU hW => by
          have := j_pre (vs := Value.ref j :: As) hK hP hS hsz hU hW
          have e2 : (Value.ref j :: As).map (jv (jad base ca)) = Value.ref (ca (10 + kq)) :: As.map (jv (jad base ca)) := by
            show Value.ref (jad base ca j) :: _ = _
            rw [e1]
          rwa [e2] at this ⊢
        have run := va_runV (p := p) (l := l) (e := e) (R := R) (below := below) (meth := meth) (n := b - 1) (mc := r.2.length - h.length) (ms := jsl r.2 - jsl h) (cells := cells) (slots := slots) (locs := locs) (C := q.2.1.cls) (As := As.map (jv (jad base ca))) (b := ca (10 + kq)) (rest := (st.drop b).map (jv (jad base ca))) (g := F0 m pc ls ((As.map (jv (jad base ca))).reverse ++ .ref (ca (10 + kq)) :: (st.drop b).map (jv (jad base ca)))) ⟨hx, hb, hml, hown, hts⟩ M ⟨j_callB (n := b - 1) hts hG hgd f4 f6 hfr hlo, hts _ (hG _ f7), hts _ (hG _ f8)⟩ ⟨jPc_blind, by
            obtain ⟨qs, hqs⟩ : ∃ qs, jstr[kq]? = some qs := ⟨_, List.getElem?_eq_getElem (by show kq < 7; exact hk1)⟩
            obtain ⟨cell, z1, z2, z3, -⟩ := (hK.2.2.2.1 kq qs hqs).2.kept hS.2.1
            rw [f3]
            exact ⟨cell, z1, z2, z3⟩, hpre⟩ rfl (by rw [List.length_map]; exact hlen) hl.1 rfl (lv_room (by rw [jv_sum]; exact g2)) hd ⟨by omega, by omega⟩
        refine j_ret run hS (fun H1 locs1 hP1 hS1 => ?_)
        have k2 := kk m3 H1 locs1 ls (cells + (r.2.length - h.length)) (slots + (jsl r.2 - jsl h)) (by show _ = r.2.length; omega) (by show _ = jsl r.2; omega) hl hP1 hS1
        have k3 : W p l e R s m args below meth c H1 locs1 (cells + (r.2.length - h.length)) (slots + (jsl r.2 - jsl h)) Q (F0 m (pc + 3) ls ((r.1.toList ++ st.drop b).map (jv (jad base ca)))) := k2
        rw [jmapO] at k3
        exact k3
  · cases he
theorem js_callS (hx : p.tables.exec = Jvm.exec) (hb : c.code = cc) (hml : c.maxLocals = nL) (hts : ∀ w ∈ Ts, w.before args s = true) (hG : ∀ w ∈ G, w ∈ Ts) (hgd : ∀ w ∈ G, goodWord w = true) (hown : s.vm.findClass own = some m.cls) (hK : jK xs ca cT D A s s.heap) (hbase : s.heap.size = base + n0) {mt : Nat → Option jM} {d : Nat} {call : Nat → List Value → List jE → Option jR} (hM : jKnown l G xs base ca cT D A mt d call) (hfr : d + 1 ≤ R.frames) (hlo : 60 * d + 60 ≤ R.locals)
    {i a b : Nat} (hd : decode cc pc = .ok (.invokestatic i, 3)) (hf : jcalS G own mt i a b) (he : jinv call a b (pc + 3) L st h = some (.inl x')) (hz0 : h.length ≤ jK0) (hR1 : x'.2.2.2.length ≤ R.cells + n0) (hR2 : jsl x'.2.2.2 ≤ R.slots + s0) (kk : jWs p l e R s m args below meth c Q base ca cT D A nL n0 s0 x') : jWs p l e R s m args below meth c Q base ca cT D A nL n0 s0 (pc, L, st, h) := by
  obtain ⟨q, f1, f4, f6, f7⟩ := hf
  obtain ⟨r, g1, g2, g3, rfl⟩ := jinv_ret he
  obtain ⟨M, m1, m2, m3⟩ := hM a q _ h r f1 g3 hz0
  have hR1 : r.2.length ≤ R.cells + n0 := hR1
  have hR2 : jsl r.2 ≤ R.slots + s0 := hR2
  intro hz H locs ls cells slots h1 h2 hl hP hS
  have h1 : cells + n0 = h.length := h1
  have h2 : slots + s0 = jsl h := h2
  refine j_sized fun hz9 => ?_
  have hsz := j_size hbase h1 hP hS hz9
  show W p l e R s m args below meth c H locs cells slots Q (F0 m pc ls (st.map (jv (jad base ca))))
  rw [jstkS (b := b) (jad base ca)]
  have run := va_runS (p := p) (l := l) (e := e) (R := R) (below := below) (meth := meth) (n := b) (mc := r.2.length - h.length) (ms := jsl r.2 - jsl h) (cells := cells) (slots := slots) (locs := locs) (As := ((st.take b).reverse).map (jv (jad base ca))) (rest := (st.drop b).map (jv (jad base ca))) (g := F0 m pc ls ((((st.take b).reverse).map (jv (jad base ca))).reverse ++ (st.drop b).map (jv (jad base ca)))) ⟨hx, hb, hml, hown, hts⟩ M ⟨j_callB (n := b) hts hG hgd f4 f6 hfr hlo, hts _ (hG _ f7)⟩ ⟨jPc_blind, fun U hU hW => j_pre hK hP hS hsz hU hW⟩ rfl (by rw [List.length_map, List.length_reverse, List.length_take]; omega) hl.1 rfl (lv_room (by rw [jv_sum]; exact g2)) hd ⟨by omega, by omega⟩
  refine j_ret run hS (fun H1 locs1 hP1 hS1 => ?_)
  have k2 := kk m3 H1 locs1 ls (cells + (r.2.length - h.length)) (slots + (jsl r.2 - jsl h)) (by show _ = r.2.length; omega) (by show _ = jsl r.2; omega) hl hP1 hS1
  have k3 : W p l e R s m args below meth c H1 locs1 (cells + (r.2.length - h.length)) (slots + (jsl r.2 - jsl h)) Q (F0 m (pc + 3) ls ((r.1.toList ++ st.drop b).map (jv (jad base ca)))) := k2
  rw [jmapO] at k3
  exact k3
theorem js_callI (hx : p.tables.exec = Jvm.exec) (hb : c.code = cc) (hml : c.maxLocals = nL) (hts : ∀ w ∈ Ts, w.before args s = true) (hG : ∀ w ∈ G, w ∈ Ts) (hgd : ∀ w ∈ G, goodWord w = true) (hown : s.vm.findClass own = some m.cls) (hK : jK xs ca cT D A s s.heap) (hbase : s.heap.size = base + n0) {mt : Nat → Option jM} {d : Nat} {call : Nat → List Value → List jE → Option jR} (hM : jKnown l G xs base ca cT D A mt d call) (hfr : d + 1 ≤ R.frames) (hlo : 60 * d + 60 ≤ R.locals)
    {i a b : Nat} (hd : decode cc pc = .ok (.invokespecial i, 3)) (hf : jcalI G own mt i a b) {j : Nat} {As : List Value} (hrv : (st.take b).reverse = .ref j :: As) (he : jinv call a b (pc + 3) L st h = some (.inl x')) (hz0 : h.length ≤ jK0) (hR1 : x'.2.2.2.length ≤ R.cells + n0) (hR2 : jsl x'.2.2.2 ≤ R.slots + s0) (kk : jWs p l e R s m args below meth c Q base ca cT D A nL n0 s0 x') : jWs p l e R s m args below meth c Q base ca cT D A nL n0 s0 (pc, L, st, h) := by
  obtain ⟨q, f1, f4, f5, f6, f7, f8, f9⟩ := hf
  obtain ⟨r, g1, g2, g3, rfl⟩ := jinv_ret he
  obtain ⟨M, m1, m2, m3⟩ := hM a q _ h r f1 g3 hz0
  rw [hrv] at M
  have hR1 : r.2.length ≤ R.cells + n0 := hR1
  have hR2 : jsl r.2 ≤ R.slots + s0 := hR2
  intro hz H locs ls cells slots h1 h2 hl hP hS
  have h1 : cells + n0 = h.length := h1
  have h2 : slots + s0 = jsl h := h2
  refine j_sized fun hz9 => ?_
  have hsz := j_size hbase h1 hP hS hz9
  show W p l e R s m args below meth c H locs cells slots Q (F0 m pc ls (st.map (jv (jad base ca))))
  have hlen : As.length = b - 1 := by
    have := congrArg List.length hrv
    rw [List.length_reverse, List.length_take, List.length_cons] at this
    omega
  rw [jstk (jad base ca) hrv]
  obtain ⟨y, q⟩ := q
  obtain ⟨y0, cc', maxL', ret', nn, own'⟩ := q
  have f7 : ret' = none := f7
  subst f7
  have run : va_Run p l e R s m args below meth c H locs cells slots (r.2.length - h.length) (jsl r.2 - jsl h) (F0 m pc ls ((As.map (jv (jad base ca))).reverse ++ .ref (jad base ca j) :: (st.drop b).map (jv (jad base ca)))) ((st.drop b).map (jv (jad base ca))) (jQ base ca cT D A r (Value.ref (jad base ca j) :: As.map (jv (jad base ca))).toArray) A := by
    rcases f9 with f9 | ⟨k, host, f9⟩
    · exact va_runI (n := b - 1) (cells := cells) (slots := slots) (locs := locs) (As := As.map (jv (jad base ca))) (b := jad base ca j) (rest := (st.drop b).map (jv (jad base ca))) (g := F0 m pc ls ((As.map (jv (jad base ca))).reverse ++ .ref (jad base ca j) :: (st.drop b).map (jv (jad base ca)))) ⟨hx, hb, hml, hown, hts⟩ M ⟨j_callB (n := b - 1) hts hG hgd f4 f9 hfr hlo, f6, hts _ (hG _ f8)⟩ ⟨jPc_blind, fun U hU hW => j_pre (vs := Value.ref j :: As) hK hP hS hsz hU hW⟩ rfl (by rw [List.length_map]; exact hlen) hl.1 rfl (lv_room (by rw [jv_sum]; exact g2)) hd ⟨by omega, by omega⟩
    · obtain ⟨q1, q2, q3, q4⟩ := f4
      exact va_runIN (n := b - 1) (host := host) (cells := cells) (slots := slots) (locs := locs) (As := As.map (jv (jad base ca))) (b := jad base ca j) (rest := (st.drop b).map (jv (jad base ca))) (g := F0 m pc ls ((As.map (jv (jad base ca))).reverse ++ .ref (jad base ca j) :: (st.drop b).map (jv (jad base ca)))) ⟨hx, hb, hml, hown, hts⟩ M ⟨va_cnB (n := b - 1) hts (j_goodIn hG hgd q1) rfl rfl rfl (hK.2.2.2.2.1 k _ f9) (hts _ (hG _ q2)) q3 ⟨hfr, by show 8 + (maxL' + 11) + 60 * d ≤ R.locals; have q4 : maxL' ≤ 40 := q4; omega⟩, f6, hts _ (hG _ f8)⟩ ⟨jPc_blind, fun U hU hW => j_pre (vs := Value.ref j :: As) hK hP hS hsz hU hW⟩ rfl (by rw [List.length_map]; exact hlen) hl.1 rfl (lv_room (by rw [jv_sum]; exact g2)) hd ⟨by omega, by omega⟩
  refine j_ret run hS (fun H1 locs1 hP1 hS1 => ?_)
  have k2 := kk m3 H1 locs1 ls (cells + (r.2.length - h.length)) (slots + (jsl r.2 - jsl h)) (by show _ = r.2.length; omega) (by show _ = jsl r.2; omega) hl hP1 hS1
  have k3 : W p l e R s m args below meth c H1 locs1 (cells + (r.2.length - h.length)) (slots + (jsl r.2 - jsl h)) Q (F0 m (pc + 3) ls ((r.1.toList ++ st.drop b).map (jv (jad base ca)))) := k2
  rw [jmapO] at k3
  exact k3
end JZ
end
section
/-! how the list of cells grows -/
def jP (h h' : List jE) : Prop := h.length ≤ h'.length ∧ jsl h ≤ jsl h' ∧ (h.length ≤ jK0 → h'.length ≤ jK0)
def jhp (o : jC ⊕ jR) : List jE := match o with
  | .inl c => c.2.2.2
  | .inr r => r.2
theorem jP_rfl (h : List jE) : jP h h := ⟨Nat.le_refl _, Nat.le_refl _, fun z => z⟩
theorem jP_tr {a b c : List jE} (h1 : jP a b) (h2 : jP b c) : jP a c := ⟨Nat.le_trans h1.1 h2.1, Nat.le_trans h1.2.1 h2.2.1, fun z => h2.2.2 (h1.2.2 z)⟩
theorem jP_set {h : List jE} {i : Nat} {e e' : jE} (he : h[i]? = some e) (hs : jsz e' = jsz e) : jP h (h.set i e') := ⟨by rw [List.length_set]; exact Nat.le_refl _, by rw [jsl_set he hs]; exact Nat.le_refl _, fun z => by rw [List.length_set]; exact z⟩
theorem jP_app {h g : List jE} (hz : h.length + g.length ≤ jK0) : jP h (h ++ g) := ⟨by rw [List.length_append]; omega, by rw [jsl_app]; omega, fun _ => by rw [List.length_append]; exact hz⟩
theorem jm_go {t : Nat} {L : List (Nat × Value)} {st : List Value} {h : List jE} {o : jC ⊕ jR} (he : jgo t L st h = some o) : jP h (jhp o) := by
  cases he
  exact jP_rfl h
theorem jm_iast {t : Nat} {L : List (Nat × Value)} {st : List Value} {h : List jE} {o : jC ⊕ jR} (he : jiast t L st h = some o) : jP h (jhp o) := by
  unfold jiast at he
  split at he
  · split at he
    · rename_i a ha
      split at he
      · cases he
        exact jP_set ha (by simp [jsz])
      · cases he
    · cases he
  · cases he
theorem jm_aast {t : Nat} {L : List (Nat × Value)} {st : List Value} {h : List jE} {o : jC ⊕ jR} (he : jaast t L st h = some o) : jP h (jhp o) := by
  unfold jaast at he
  split at he
  · split at he
    · rename_i a ha
      split at he
      · cases he
        exact jP_set ha (by simp [jsz])
      · cases he
    · cases he
  · cases he
theorem jm_putf {ci k ty t : Nat} {L : List (Nat × Value)} {st : List Value} {h : List jE} {o : jC ⊕ jR} (he : jputf ci k ty t L st h = some o) : jP h (jhp o) := by
  unfold jputf at he
  split at he
  · split at he
    · rename_i a ha
      rw [Bool.cond_eq_ite] at he
      split at he
      · cases he
        exact jP_set ha (by simp [jsz])
      · cases he
    · cases he
  · cases he
theorem jm_copy {t : Nat} {L : List (Nat × Value)} {st : List Value} {h : List jE} {o : jC ⊕ jR} (he : jcopy t L st h = some o) : jP h (jhp o) := by
  unfold jcopy at he
  split at he
  · split at he
    · rename_i f g hf hg
      split at he
      · cases he
        exact jP_set hg (by simp [jsz, jcpy_len])
      · cases he
    · cases he
  · cases he
theorem jm_new {ci t : Nat} {dfl : List Value} {L : List (Nat × Value)} {st : List Value} {h : List jE} {o : jC ⊕ jR} (he : jnew ci t dfl L st h = some o) : jP h (jhp o) := by
  unfold jnew at he
  cases hk : Nat.blt h.length jK0 with
  | false => rw [hk] at he; cases he
  | true =>
    rw [hk] at he
    cases he
    exact jP_app (Nat.le_of_ble_eq_true hk)
theorem jm_newa {t : Nat} {L : List (Nat × Value)} {st : List Value} {h : List jE} {o : jC ⊕ jR} (he : jnewa t L st h = some o) : jP h (jhp o) := by
  unfold jnewa at he
  split at he
  · split at he
    · rename_i hc
      cases he
      exact jP_app hc.2.2
    · cases he
  · cases he
theorem jm_newq {k t : Nat} {L : List (Nat × Value)} {st : List Value} {h : List jE} {o : jC ⊕ jR} (he : jnewq k t L st h = some o) : jP h (jhp o) := by
  unfold jnewq at he
  split at he
  · split at he
    · rename_i hc
      cases he
      exact jP_app hc.2.2
    · cases he
  · cases he
theorem jm_newg {k t : Nat} {L : List (Nat × Value)} {st : List Value} {h : List jE} {o : jC ⊕ jR} (he : jnewg k t L st h = some o) : jP h (jhp o) := by
  unfold jnewg at he
  split at he
  · split at he
    · rename_i hc
      cases he
      refine jP_app ?_
      rw [List.length_cons, List.length_replicate]
      have := hc.2.2.2.2
      omega
    · cases he
  · cases he
theorem jm_inv {call : Nat → List Value → List jE → Option jR} (hc : ∀ (a : Nat) (vs : List Value) (h : List jE) (r : jR), call a vs h = some r → jP h r.2) {a n t : Nat} {L : List (Nat × Value)} {st : List Value} {h : List jE} {o : jC ⊕ jR} (he : jinv call a n t L st h = some o) : jP h (jhp o) := by
  unfold jinv at he
  split at he
  · split at he
    · rename_i v h' hr
      cases he
      exact hc _ _ _ _ hr
    · rename_i h' hr
      cases he
      exact hc _ _ _ _ hr
    · cases he
  · cases he
theorem jm_invV {call : Nat → List Value → List jE → Option jR} (hc : ∀ (a : Nat) (vs : List Value) (h : List jE) (r : jR), call a vs h = some r → jP h r.2) {a n ci t : Nat} {L : List (Nat × Value)} {st : List Value} {h : List jE} {o : jC ⊕ jR} (he : jinvV call a n ci t L st h = some o) : jP h (jhp o) := by
  unfold jinvV at he
  split at he
  · split at he
    · rw [Bool.cond_eq_ite] at he
      split at he
      · exact jm_inv hc he
      · cases he
    · cases he
  · cases he
theorem jm_invK {call : Nat → List Value → List jE → Option jR} (hc : ∀ (a : Nat) (vs : List Value) (h : List jE) (r : jR), call a vs h = some r → jP h r.2) {a n t : Nat} {L : List (Nat × Value)} {st : List Value} {h : List jE} {o : jC ⊕ jR} (he : jinvK call a n t L st h = some o) : jP h (jhp o) := by
  unfold jinvK at he
  split at he
  · rw [Bool.cond_eq_ite] at he
    split at he
    · exact jm_inv hc he
    · cases he
  · cases he
theorem jm_invI {call : Nat → List Value → List jE → Option jR} (hc : ∀ (a : Nat) (vs : List Value) (h : List jE) (r : jR), call a vs h = some r → jP h r.2) {a n t : Nat} {L : List (Nat × Value)} {st : List Value} {h : List jE} {o : jC ⊕ jR} (he : jinvI call a n t L st h = some o) : jP h (jhp o) := by
  unfold jinvI at he
  split at he
  · exact jm_inv hc he
  · cases he
theorem jm_exec {cs : Nat → Option (List Int32)} {call : Nat → List Value → List jE → Option jR} (hc : ∀ (a : Nat) (vs : List Value) (h : List jE) (r : jR), call a vs h = some r → jP h r.2) {nL : Nat} {ret : Option FieldType} {x : jI} {pc : Nat} {L : List (Nat × Value)} {st : List Value} {h : List jE} {o : jC ⊕ jR} (he : jexec cs call nL ret x pc L st h = some o) : jP h (jhp o) := by
  obtain ⟨ins, len, a, b, c, k⟩ := x
  unfold jexec at he
  simp only [jloadI, jloadL, jloadA, jstoreI, jstoreA, jstoreL, jop1, jop2, jop2L, jshL, jiald, jaald, jalen, jgetf, jgetk, jbald, jtsw, jlsw, jret, jretA, jretV, jretL, jif, jicmp, Bool.cond_eq_ite] at he
  split at he
  all_goals first | exact jm_go he | exact jm_iast he | exact jm_aast he | exact jm_putf he | exact jm_new he | exact jm_newa he | exact jm_newq he | exact jm_newg he | exact jm_inv hc he | exact jm_invV hc he | (cases he; done) | skip
  all_goals (repeat' split at he)
  all_goals first | exact jm_go he | (cases he; first | exact jP_rfl h | done) | exact jm_inv hc he | exact jm_invI hc he | exact jm_invV hc he | exact jm_invK hc he | exact jm_copy he
theorem jm_run {cs : Nat → Option (List Int32)} {call : Nat → List Value → List jE → Option jR} (hc : ∀ (a : Nat) (vs : List Value) (h : List jE) (r : jR), call a vs h = some r → jP h r.2) {nL : Nat} {ret : Option FieldType} {tab : Nat → Option jI} : ∀ (f : Nat) (c : jC) (r : jR), jrun cs call nL ret tab f c = some r → jP c.2.2.2 r.2
  | 0, _, _, h => by cases h
  | f + 1, c, r, h => by
    unfold jrun at h
    unfold jstep at h
    cases ht : tab c.1 with
    | none => rw [ht] at h; cases h
    | some x =>
      rw [ht] at h
      cases he : jexec cs call nL ret x c.1 c.2.1 c.2.2.1 c.2.2.2 with
      | none => simp only [he] at h; cases h
      | some o =>
        have h1 := jm_exec hc he
        cases o with
        | inl c' =>
          simp only [he] at h
          exact jP_tr h1 (jm_run hc f c' r h)
        | inr r' =>
          simp only [he] at h
          cases h
          exact h1
theorem jm_call {mt : Nat → Option jM} {cs : Nat → Option (List Int32)} {F : Nat} : ∀ (d a : Nat) (vs : List Value) (h : List jE) (r : jR), jcall mt cs F d a vs h = some r → jP h r.2
  | 0, _, _, _, _, h => by cases h
  | d + 1, a, vs, h, r, he => by
    unfold jcall at he
    split at he
    · cases he
    · split at he
      · cases hb9 : (a == 264) with
        | true =>
          rw [hb9, cond_true] at he
          unfold jnat at he
          split at he
          · split at he
            · cases he; exact jP_rfl h
            · cases he
          · cases he
        | false =>
          rw [hb9, cond_false] at he
          exact jm_run (jm_call d) _ _ _ he
      · cases he
end
section
/-! the step, the run, the call *-/
def jlen : Instr → Nat
  | .bipush _ | .ldc _ | .iload _ | .lload _ | .aload _ | .istore _ | .lstore _ | .astore _ | .newarray _ => 2
  | .sipush _ | .ldc_w _ | .ldc2_w _ | .iinc .. | .goto _ | .ifCond .. | .if_icmp .. | .getfield _ | .putfield _ | .getstatic _ | .new _ | .anewarray _ | .invokevirtual _ | .invokespecial _ | .invokestatic _ => 3
  | .multianewarray .. => 4
  | _ => 1
def jl (i : Instr) (len : Nat) : Bool := match i with
  | .tableswitch .. => true
  | .lookupswitch .. => true
  | i => len == jlen i
/-- what an instruction needs of the tables -/
def jext (G : List Cond) (own : String) (ini : Prop) (mt : Nat → Option jM) (pc : Nat) (x : jI) : Prop := match x with
  | (ins, _, a, b, c, k) => match ins with
    | .ldc i => (a = 0 ∧ Cond.constant own i k.toInt32 ∈ G) ∨ (a = 1 ∧ ∃ (z : Nat) (q : String × Nat × String), b = 10 + z ∧ jstr[z]? = some q ∧ q.1 = own ∧ q.2.1 = i)
    | .ldc_w i => Cond.constant own i k.toInt32 ∈ G
    | .ldc2_w i => Cond.constantLong own i k ∈ G
    | .goto off => (pc : Int) + off = (a : Int)
    | .ifCond _ off => (pc : Int) + off = (a : Int)
    | .if_icmp _ off => (pc : Int) + off = (a : Int)
    | .getfield i => (c = 0 ∧ jfld G own i a b) ∨ (c = 9 ∧ ((b = 0 ∧ Cond.fieldLink own i "java/lang/String" "value" "[B" ∈ G) ∨ (b = 1 ∧ Cond.fieldLink own i "java/lang/String" "coder" "B" ∈ G)))
    | .putfield i => jfput G own ini i a b c
    | .getstatic i => (b = 9 ∧ Cond.fieldLink own i "java/lang/String" "COMPACT_STRINGS" "Z" ∈ G) ∨ b = 0 ∧ ∃ q : String × String × List Int32, jst[a]? = some q ∧ Cond.fieldLink own i q.1 q.2.1 "[I" ∈ G
    | .new i => jfnew G own i a
    | .newarray t => t = .int ∧ Cond.arrayClass .int ∈ G
    | .anewarray i => (a = 2 ∨ a = 3) ∧ Cond.classLink own i (jover a) ∈ G
    | .multianewarray i n => n = 2 ∧ Cond.classLink own i "[[I" ∈ G ∧ Cond.arrayClass .int ∈ G
    | .invokevirtual i => (k = 0 ∧ jcalV G own mt i a b c) ∨ (k = 9 ∧ jcalK G own mt i a b)
    | .invokespecial i => (c = 1 ∧ Cond.methodLink own i objectInit ∈ G ∧ Cond.instanceMethod objectInit ∈ G ∧ Cond.code objectInit ⟨#[0xb1]⟩ 1 none ∈ G) ∨ (c = 0 ∧ jcalI G own mt i a b)
    | .invokestatic i => (c = 1 ∧ Cond.methodLink own i arraycopyName ∈ G ∧ Cond.native arraycopyName ∈ G ∧ Cond.static arraycopyName ∈ G ∧ Cond.initialized "java/lang/System" ∈ G) ∨ (c = 0 ∧ jcalS G own mt i a b)
    | _ => True
def jok (G : List Cond) (own : String) (ini : Prop) (mt : Nat → Option jM) (cc : ByteArray) (pc : Nat) (x : jI) : Prop := decode cc pc = .ok (x.1, x.2.1) ∧ jl x.1 x.2.1 = true ∧ jext G own ini mt pc x
/-- a return of v -/
def jrat (cc : ByteArray) (ret : Option FieldType) (pc : Nat) (st : List Value) (v : Option Value) : Prop :=
  (∃ x : Int32, decode cc pc = .ok (.ireturn, 1) ∧ st = [.int x] ∧ v = some (.int x) ∧ (ret = some .int ∨ (ret = some .boolean ∧ (x = 0 ∨ x = 1)) ∨ (ret = some .byte ∧ x = 0) ∨ (ret = some .char ∧ jchar x = true))) ∨
  (∃ (x : Nat) (n : String), decode cc pc = .ok (.areturn, 1) ∧ st = [.ref x] ∧ v = some (.ref x) ∧ ret = some (.object n)) ∨ (decode cc pc = .ok (.return_, 1) ∧ st = [] ∧ v = none ∧ ret = none) ∨ (∃ x : Int64, decode cc pc = .ok (.lreturn, 1) ∧ st = [.long x] ∧ v = some (.long x) ∧ ret = some .long)
theorem jr_exec {G : List Cond} {own : String} {ini : Prop} {mt : Nat → Option jM} {cc : ByteArray} {cs : Nat → Option (List Int32)} {call : Nat → List Value → List jE → Option jR} {nL : Nat} {ret : Option FieldType} {x : jI} {pc : Nat} {L : List (Nat × Value)} {st : List Value} {h : List jE} {r : jR} (hok : jok G own ini mt cc pc x) (he : jexec cs call nL ret x pc L st h = some (.inr r)) : jrat cc ret pc st r.1 ∧ r.2 = h := by
  obtain ⟨ins, len, a, b, c, k⟩ := x
  obtain ⟨hd, hl, -⟩ := hok
  have hd : decode cc pc = .ok (ins, len) := hd
  have hl : jl ins len = true := hl
  unfold jexec at he
  simp only [jgo, jloadI, jloadL, jloadA, jstoreI, jstoreA, jstoreL, jop1, jop2, jop2L, jshL, jiald, jaald, jalen, jgetf, jgetk, jbald, jinvK, jtsw, jlsw, jif, jicmp, jiast, jaast, jputf, jnew, jnewa, jnewq, jnewg, jcopy, jinv, jinvV, jinvI, Bool.cond_eq_ite] at he
  split at he
  case h_70 =>
    cases eq_of_beq hl
    unfold jret at he
    split at he
    · split at he
      · cases he
        exact ⟨Or.inl ⟨_, hd, rfl, rfl, Or.inl rfl⟩, rfl⟩
      · split at he
        · rename_i hv
          cases he
          exact ⟨Or.inl ⟨_, hd, rfl, rfl, Or.inr (Or.inl ⟨rfl, hv⟩)⟩, rfl⟩
        · cases he
      · split at he
        · rename_i hv
          cases he
          exact ⟨Or.inl ⟨_, hd, rfl, rfl, Or.inr (Or.inr (Or.inl ⟨rfl, hv⟩))⟩, rfl⟩
        · cases he
      · split at he
        · rename_i hv
          cases he
          exact ⟨Or.inl ⟨_, hd, rfl, rfl, Or.inr (Or.inr (Or.inr ⟨rfl, hv⟩))⟩, rfl⟩
        · cases he
      · cases he
    · cases he
  case h_71 =>
    cases eq_of_beq hl
    unfold jretA at he
    split at he
    · split at he
      · cases he
        exact ⟨Or.inr (Or.inl ⟨_, _, hd, rfl, rfl, rfl⟩), rfl⟩
      · cases he
    · cases he
  case h_72 =>
    cases eq_of_beq hl
    unfold jretV at he
    split at he
    · split at he
      · cases he
        exact ⟨Or.inr (Or.inr (Or.inl ⟨hd, rfl, rfl, rfl⟩)), rfl⟩
      · cases he
    · cases he
  case h_73 =>
    cases eq_of_beq hl
    unfold jretL at he
    split at he
    · split at he
      · cases he
        exact ⟨Or.inr (Or.inr (Or.inr ⟨_, hd, rfl, rfl, rfl⟩)), rfl⟩
      · cases he
    · cases he
  all_goals first | (cases he; done) | skip
  all_goals (repeat' split at he)
  all_goals (cases he; done)
end
section
section JF
variable {p : Program} {l : Launch} {e : Env} {R : Room} {s : State} {m : MethodId} {args : Array Value} {below : List Frame} {meth : Method} {c : Code} {Q : State → Prop} {base : Nat} {ca : Nat → Nat} {cT : Nat → ClassId} {D : va_G} {A : Nat → Prop} {nL n0 s0 : Nat}
variable {cc : ByteArray} {pc t : Nat} {L : List (Nat × Value)} {st : List Value} {h : List jE} {x' : jC} {G Ts : List Cond} {own : String} {xs : List Int32} {H : Heap} {locs : List Loc} {cells slots : Nat}
set_option maxHeartbeats 4000000 in
theorem j_step (hx : p.tables.exec = Jvm.exec) (hb : c.code = cc) (hml : c.maxLocals = nL) (hts : ∀ w ∈ Ts, w.before args s = true) (hG : ∀ w ∈ G, w ∈ Ts) (hgd : ∀ w ∈ G, goodWord w = true) (hown : s.vm.findClass own = some m.cls) (hK : jK xs ca cT D A s s.heap) (hA : ∀ q, base ≤ q → A q) (hbase : s.heap.size = base + n0) {ini : Prop} (hin : ini → meth.name = "<init>") {mt : Nat → Option jM} {d : Nat} {call : Nat → List Value → List jE → Option jR} (hM : jKnown l G xs base ca cT D A mt d call) (hfr : d + 1 ≤ R.frames) (hlo : 60 * d + 60 ≤ R.locals)
    {ret : Option FieldType} {x : jI} (hok : jok G own ini mt cc pc x) (he : jexec (jcs xs) call nL ret x pc L st h = some (.inl x')) (hz0 : h.length ≤ jK0) (hR1 : x'.2.2.2.length ≤ R.cells + n0) (hR2 : jsl x'.2.2.2 ≤ R.slots + s0) (kk : jWs p l e R s m args below meth c Q base ca cT D A nL n0 s0 x') : jWs p l e R s m args below meth c Q base ca cT D A nL n0 s0 (pc, L, st, h) := by
  obtain ⟨ins, len, a, b, c9, k⟩ := x
  obtain ⟨hd, hl, hext⟩ := hok
  have hd : decode cc pc = .ok (ins, len) := hd
  have hl : jl ins len = true := hl
  cases ins with
  | iconst n => cases eq_of_beq hl; cases he; exact js_st (st' := .int (Int32.ofInt n) :: st) (fun H locs ls cells slots k => lv_iconst hx hb hd rfl k) kk
  | bipush n => cases eq_of_beq hl; cases he; exact js_st (st' := .int (Int8.ofInt n).toInt32 :: st) (fun H locs ls cells slots k => lv_bipush hx hb hd rfl k) kk
  | sipush n => cases eq_of_beq hl; cases he; exact js_st (st' := .int (Int16.ofInt n).toInt32 :: st) (fun H locs ls cells slots k => lv_sipush hx hb hd rfl k) kk
  | lconst n => cases eq_of_beq hl; cases he; exact js_st (st' := .long (Int64.ofNat (n : Nat)) :: st) (fun H locs ls cells slots k => lv_lconst hx hb hd rfl k) kk
  | ldc i =>
    cases eq_of_beq hl
    rcases hext with ⟨ha, hw⟩ | ⟨ha, z, q, hb9, hq, hq1, hq2⟩
    · have ha : a = 0 := ha
      subst ha
      cases he
      exact js_st (st' := .int k.toInt32 :: st) (fun H locs ls cells slots k => lv_ldc hx hb hown (hts _ (hG _ hw)) hd k) kk
    · have ha : a = 1 := ha
      subst ha
      have hb9 : b = 10 + z := hb9
      subst hb9
      obtain ⟨o1, i1, tx⟩ := q
      have hq1 : o1 = own := hq1
      have hq2 : i1 = i := hq2
      subst hq1
      subst hq2
      cases he
      refine js_st (st' := .ref (jK0 + (10 + z)) :: st) (fun H locs ls cells slots k => ?_) kk
      have k2 : W p l e R s m args below meth c H locs cells slots Q (F0 m (pc + 2) ls (.ref (jad base ca (jK0 + (10 + z))) :: st.map (jv (jad base ca)))) := k
      rw [jad_k] at k2
      exact va_ldcS hx hb hown (hK.2.2.2.1 z _ hq).1 hd k2
  | ldc_w i => cases eq_of_beq hl; cases he; exact js_st (st' := .int k.toInt32 :: st) (fun H locs ls cells slots k => lv_ldcw hx hb hown (hts _ (hG _ hext)) hd k) kk
  | ldc2_w i => cases eq_of_beq hl; cases he; exact js_st (st' := .long k :: st) (fun H locs ls cells slots k => lv_ldc2 hx hb hown (hts _ (hG _ hext)) hd k) kk
  | iload_n i => cases eq_of_beq hl; exact js_loadI_n hx hb hd he kk
  | iload i => cases eq_of_beq hl; exact js_loadI hx hb hd he kk
  | lload_n i => cases eq_of_beq hl; exact js_loadL_n hx hb hd he kk
  | lload i => cases eq_of_beq hl; exact js_loadL hx hb hd he kk
  | aload_n i => cases eq_of_beq hl; exact js_loadA_n hx hb hd he kk
  | aload i => cases eq_of_beq hl; exact js_loadA hx hb hd he kk
  | istore_n i => cases eq_of_beq hl; exact js_storeI_n hx hb hd he kk
  | istore i => cases eq_of_beq hl; exact js_storeI hx hb hd he kk
  | astore_n i => cases eq_of_beq hl; exact js_storeA_n hx hb hd he kk
  | astore i => cases eq_of_beq hl; exact js_storeA hx hb hd he kk
  | lstore_n i => cases eq_of_beq hl; exact js_storeL_n hx hb hd he kk
  | lstore i => cases eq_of_beq hl; exact js_storeL hx hb hd he kk
  | iinc i n =>
    cases eq_of_beq hl
    unfold jexec at he
    simp only [] at he
    split at he
    · rename_i v hg
      cases hn : Nat.blt i nL with
      | false => rw [hn] at he; cases he
      | true =>
        rw [hn] at he
        cases he
        exact js_iinc hx hb hd hg hn kk
    · cases he
  | iadd => cases eq_of_beq hl; exact js_op2 (fun H locs ls cells slots x y rest k => lv_iadd hx hb hd k) he kk
  | isub => cases eq_of_beq hl; exact js_op2 (fun H locs ls cells slots x y rest k => lv_isub hx hb hd k) he kk
  | imul => cases eq_of_beq hl; exact js_op2 (fun H locs ls cells slots x y rest k => lv_imul hx hb hd k) he kk
  | iand => cases eq_of_beq hl; exact js_op2 (fun H locs ls cells slots x y rest k => lv_iand hx hb hd k) he kk
  | ior => cases eq_of_beq hl; exact js_op2 (fun H locs ls cells slots x y rest k => lv_ior hx hb hd k) he kk
  | ixor => cases eq_of_beq hl; exact js_op2 (fun H locs ls cells slots x y rest k => lv_ixor hx hb hd k) he kk
  | ishl => cases eq_of_beq hl; exact js_op2 (fun H locs ls cells slots x y rest k => lv_ishl hx hb hd k) he kk
  | ishr => cases eq_of_beq hl; exact js_op2 (fun H locs ls cells slots x y rest k => lv_ishr hx hb hd k) he kk
  | iushr => cases eq_of_beq hl; exact js_op2 (fun H locs ls cells slots x y rest k => lv_iushr hx hb hd rfl k) he kk
  | iaload => cases eq_of_beq hl; exact js_ald hx hb hK hd he kk
  | iastore => cases eq_of_beq hl; exact js_ast hx hb hK hA hd he kk
  | aaload => cases eq_of_beq hl; exact js_aald hx hb hK hd he kk
  | aastore => cases eq_of_beq hl; exact js_aast hx hb hK hA hd he kk
  | arraylength => cases eq_of_beq hl; exact js_len hx hb hK hd he kk
  | ineg => cases eq_of_beq hl; exact js_op1 (fun H locs ls cells slots x rest k => lv_ineg hx hb hd k) he kk
  | i2b => cases eq_of_beq hl; exact js_op1 (fun H locs ls cells slots x rest k => lv_i2b hx hb hd rfl k) he kk
  | i2s => cases eq_of_beq hl; exact js_op1 (fun H locs ls cells slots x rest k => lv_i2s hx hb hd rfl k) he kk
  | i2c => cases eq_of_beq hl; exact js_op1 (fun H locs ls cells slots x rest k => lv_i2c hx hb hd rfl k) he kk
  | ladd => cases eq_of_beq hl; exact js_op2L (fun H locs ls cells slots x y rest k => lv_ladd hx hb hd k) he kk
  | lmul => cases eq_of_beq hl; exact js_op2L (fun H locs ls cells slots x y rest k => lv_lmul hx hb hd k) he kk
  | land => cases eq_of_beq hl; exact js_op2L (fun H locs ls cells slots x y rest k => lv_land hx hb hd k) he kk
  | lor => cases eq_of_beq hl; exact js_op2L (fun H locs ls cells slots x y rest k => lv_lor hx hb hd k) he kk
  | lshl => cases eq_of_beq hl; exact js_shL (fun H locs ls cells slots x y rest k => lv_lshl hx hb hd rfl k) he kk
  | lshr => cases eq_of_beq hl; exact js_shL (fun H locs ls cells slots x y rest k => lv_lshr hx hb hd rfl k) he kk
  | lushr => cases eq_of_beq hl; exact js_shL (fun H locs ls cells slots x y rest k => lv_lushr hx hb hd rfl k) he kk
  | i2l =>
    cases eq_of_beq hl
    unfold jexec at he
    simp only [] at he
    split at he
    · cases he
      exact js_st (fun H locs ls cells slots k => lv_i2l hx hb hd rfl k) kk
    · cases he
  | l2i =>
    cases eq_of_beq hl
    unfold jexec at he
    simp only [] at he
    split at he
    · cases he
      exact js_st (fun H locs ls cells slots k => lv_l2i hx hb hd rfl k) kk
    · cases he
  | idiv =>
    cases eq_of_beq hl
    unfold jexec at he
    simp only [] at he
    split at he
    · split at he
      · cases he
      · rename_i hne
        cases he
        exact js_st (fun H locs ls cells slots k => lv_idiv hx hb hd hne k) kk
    · cases he
  | irem =>
    cases eq_of_beq hl
    unfold jexec at he
    simp only [] at he
    split at he
    · split at he
      · cases he
      · rename_i hne
        cases he
        exact js_st (fun H locs ls cells slots k => lv_irem hx hb hd hne k) kk
    · cases he
  | ldiv =>
    cases eq_of_beq hl
    unfold jexec at he
    simp only [] at he
    split at he
    · split at he
      · cases he
      · rename_i hne
        cases he
        exact js_st (fun H locs ls cells slots k => lv_ldiv hx hb hd hne k) kk
    · cases he
  | lcmp =>
    cases eq_of_beq hl
    unfold jexec at he
    simp only [] at he
    split at he
    · cases he
      exact js_st (fun H locs ls cells slots k => W.lcmp hx hb hd k) kk
    · cases he
  | dup =>
    cases eq_of_beq hl
    unfold jexec at he
    simp only [] at he
    split at he
    · cases he
      exact js_st (fun H locs ls cells slots k => lv_dup hx hb hd rfl k) kk
    · cases he
      exact js_st (fun H locs ls cells slots k => lv_dup hx hb hd rfl k) kk
    · cases he
  | pop =>
    cases eq_of_beq hl
    unfold jexec at he
    simp only [] at he
    split at he
    · cases he
      exact js_st (fun H locs ls cells slots k => lv_pop hx hb hd rfl k) kk
    · cases he
      exact js_st (fun H locs ls cells slots k => lv_pop hx hb hd rfl k) kk
    · cases he
  | dup2 =>
    cases eq_of_beq hl
    unfold jexec at he
    simp only [] at he
    split at he
    · cases he
      exact js_st (fun H locs ls cells slots k => lv_dup2_11 hx hb hd rfl rfl k) kk
    · cases he
      exact js_st (fun H locs ls cells slots k => lv_dup2_11 hx hb hd rfl rfl k) kk
    · cases he
  | goto off => cases eq_of_beq hl; cases he; exact js_st (fun H locs ls cells slots k => lv_goto hx hb hd hext k) kk
  | ifCond q off => cases eq_of_beq hl; exact js_if hx hb hd hext he kk
  | if_icmp q off => cases eq_of_beq hl; exact js_icmp hx hb hd hext he kk
  | tableswitch d lo hi offs => exact js_tsw hx hb hd he kk
  | lookupswitch d ps => exact js_lsw hx hb hd he kk
  | getfield i =>
    cases eq_of_beq hl
    rcases hext with ⟨hc9, hext⟩ | ⟨hc9, hext⟩
    · have hc9 : c9 = 0 := hc9
      subst hc9
      exact js_get hx hb hts hG hown hK hd hext he kk
    · have hc9 : c9 = 9 := hc9
      subst hc9
      exact js_getk hx hb hts hG hown hK hd hext he kk
  | baload => cases eq_of_beq hl; exact js_bald hx hb hK hd he kk
  | putfield i => cases eq_of_beq hl; exact js_put hx hb hts hG hown hK hA hin hd hext he kk
  | getstatic i =>
    cases eq_of_beq hl
    rcases hext with ⟨hb9, hw⟩ | ⟨hb9, hext⟩
    · have hb9 : b = 9 := hb9
      subst hb9
      have he : jgo (pc + 3) L (.int 1 :: st) h = some (.inl x') := he
      cases he
      intro hz H locs ls cells slots h1 h2 hl hP hS
      exact va_gets hx hb hK.2.2.2.2.2.2.2.2.2.1 hS hown (hts _ (hG _ hw)) (fun _ h9 => h9) hd (kk hz H locs ls cells slots h1 h2 hl hP hS)
    have hb9 : b = 0 := hb9
    subst hb9
    obtain ⟨q, hq, hw⟩ := hext
    have he : jgo (pc + 3) L (.ref (jK0 + a) :: st) h = some (.inl x') := he
    cases he
    intro hz H locs ls cells slots h1 h2 hl hP hS
    have k2 : W p l e R s m args below meth c H locs cells slots Q (F0 m (pc + 3) ls (.ref (jad base ca (jK0 + a)) :: st.map (jv (jad base ca)))) := kk hz H locs ls cells slots h1 h2 hl hP hS
    rw [jad_k] at k2
    exact va_gets hx hb (hK.2.2.1 a _ hq) hS hown (hts _ (hG _ hw)) (fun _ h9 => h9) hd k2
  | new i => cases eq_of_beq hl; exact js_new hx hb hts hG hown hK hA hbase hd hext he hR1 hR2 kk
  | newarray t =>
    cases eq_of_beq hl
    obtain ⟨h1, h2⟩ := hext
    have h1 : t = .int := h1
    subst h1
    exact js_newa hx hb hts hG hK hA hbase hd h2 he hR1 hR2 kk
  | anewarray i => cases eq_of_beq hl; exact js_newq hx hb hts hG hown hK hA hbase hd hext he hR1 hR2 kk
  | multianewarray i n =>
    cases eq_of_beq hl
    obtain ⟨h1, h2⟩ := hext
    have h1 : n = 2 := h1
    subst h1
    exact js_newg hx hb hts hG hown hK hA hbase hd h2 he hR1 hR2 kk
  | invokevirtual i =>
    cases eq_of_beq hl
    rcases hext with ⟨hk9, hext⟩ | ⟨hk9, hext⟩
    · have hk9 : k = 0 := hk9
      subst hk9
      exact js_callV hx hb hml hts hG hgd hown hK hbase hM hfr hlo hA hd hext he hz0 hR1 hR2 kk
    · have hk9 : k = 9 := hk9
      subst hk9
      exact js_callK hx hb hml hts hG hgd hown hK hbase hM hfr hlo hA hd hext he hz0 hR1 hR2 kk
  | invokespecial i =>
    cases eq_of_beq hl
    rcases hext with ⟨hc9, w1, w2, w3⟩ | ⟨hc9, hext⟩
    · have hc9 : c9 = 1 := hc9
      subst hc9
      unfold jexec at he
      simp only [BEq.rfl, cond_true] at he
      split at he
      · split at he
        · rename_i h9
          cases he
          intro hz H locs ls cells slots h1 h2 hl hP hS
          exact W.objInit hx hb hown (hts _ (hG _ w1)) (hts _ (hG _ w2)) (hts _ (hG _ w3)) rfl (by rw [hml]; exact hl.1) rfl hd (by omega) (by rw [jv_sum]; show 2 * 0 + _ + 12 ≤ R.locals; omega) (kk hz H locs ls cells slots h1 h2 hl hP hS)
        · cases he
      · cases he
    · have hc9 : c9 = 0 := hc9
      subst hc9
      have he : jinvI call a b (pc + 3) L st h = some (.inl x') := he
      unfold jinvI at he
      split at he
      · rename_i hrv
        exact js_callI hx hb hml hts hG hgd hown hK hbase hM hfr hlo hd hext hrv he hz0 hR1 hR2 kk
      · cases he
  | invokestatic i =>
    cases eq_of_beq hl
    rcases hext with ⟨hc9, w⟩ | ⟨hc9, hext⟩
    · have hc9 : c9 = 1 := hc9
      subst hc9
      exact js_copy hx hb hml hts hG hown hK hA (by omega) (by omega) hd w he kk
    · have hc9 : c9 = 0 := hc9
      subst hc9
      exact js_callS hx hb hml hts hG hgd hown hK hbase hM hfr hlo hd hext he hz0 hR1 hR2 kk
  | ireturn =>
    unfold jexec jret at he
    simp only [] at he
    repeat' split at he
    all_goals (cases he)
  | areturn =>
    unfold jexec jretA at he
    simp only [] at he
    repeat' split at he
    all_goals (cases he)
  | lreturn =>
    unfold jexec jretL at he
    simp only [] at he
    repeat' split at he
    all_goals (cases he)
  | return_ =>
    unfold jexec jretV at he
    simp only [] at he
    repeat' split at he
    all_goals (cases he)
  | _ => exact nomatch (show (none : jO) = some (.inl x') from he)
end JF
end
section
section JT
variable {p : Program} {l : Launch} {e : Env} {R : Room} {s : State} {m : MethodId} {args : Array Value} {below : List Frame} {meth : Method} {c : Code} {Q : State → Prop} {base : Nat} {ca : Nat → Nat} {cT : Nat → ClassId} {D : va_G} {A : Nat → Prop} {nL n0 s0 : Nat}
variable {cc : ByteArray} {G Ts : List Cond} {own : String} {xs : List Int32}
/-- a run of the interpreter is a run of the machine -/
theorem j_run (hx : p.tables.exec = Jvm.exec) (hb : c.code = cc) (hml : c.maxLocals = nL) (hts : ∀ w ∈ Ts, w.before args s = true) (hG : ∀ w ∈ G, w ∈ Ts) (hgd : ∀ w ∈ G, goodWord w = true) (hown : s.vm.findClass own = some m.cls) (hK : jK xs ca cT D A s s.heap) (hA : ∀ q, base ≤ q → A q) (hbase : s.heap.size = base + n0) {ini : Prop} (hin : ini → meth.name = "<init>") {mt : Nat → Option jM} {d : Nat} {call : Nat → List Value → List jE → Option jR} (hM : jKnown l G xs base ca cT D A mt d call) (hmo : ∀ (a : Nat) (vs : List Value) (h : List jE) (r : jR), call a vs h = some r → jP h r.2) (hfr : d + 1 ≤ R.frames) (hlo : 60 * d + 60 ≤ R.locals)
    {ret : Option FieldType} {tab : Nat → Option jI} (htab : ∀ (pc : Nat) (x : jI), tab pc = some x → jok G own ini mt cc pc x) {r : jR} (hR1 : r.2.length ≤ R.cells + n0) (hR2 : jsl r.2 ≤ R.slots + s0) (kr : ∀ (pc : Nat) (L : List (Nat × Value)) (st : List Value), jrat cc ret pc st r.1 → jWs p l e R s m args below meth c Q base ca cT D A nL n0 s0 (pc, L, st, r.2)) :
    ∀ (f : Nat) (x : jC), x.2.2.2.length ≤ jK0 → jrun (jcs xs) call nL ret tab f x = some r → jWs p l e R s m args below meth c Q base ca cT D A nL n0 s0 x := by
  intro f
  induction f with
  | zero =>
    intro x _ h
    cases h
  | succ f ih =>
    intro x hz h
    obtain ⟨pc, L, st, h0⟩ := x
    have hm := jm_run hmo _ _ _ h
    unfold jrun jstep at h
    cases ht : tab pc with
    | none => simp only [ht] at h; cases h
    | some y =>
      simp only [ht] at h
      cases he : jexec (jcs xs) call nL ret y pc L st h0 with
      | none => simp only [he] at h; cases h
      | some o =>
        simp only [he] at h
        cases o with
        | inr r' =>
          have h : some r' = some r := h
          cases h
          obtain ⟨g1, g2⟩ := jr_exec (htab pc y ht) he
          rw [← g2]
          exact kr pc L st g1
        | inl c' =>
          have h : jrun (jcs xs) call nL ret tab f c' = some r := h
          have hm2 := jm_run hmo _ _ _ h
          have hm1 := jm_exec hmo he
          exact j_step hx hb hml hts hG hgd hown hK hA hbase hin hM hfr hlo (htab pc y ht) he hz (Nat.le_trans hm2.1 hR1) (Nat.le_trans hm2.2.1 hR2) (ih c' (hm1.2.2 hz) h)
end JT
theorem lgsl_map (ad : Nat → Nat) (vs : List Value) : (lg_sl (vs.map (jv ad))).length = (lg_sl vs).length := by
  unfold lg_sl
  induction vs with
  | nil => rfl
  | cons v r ih =>
    rw [List.map_cons, List.flatMap_cons, List.flatMap_cons, List.length_append, List.length_append, ih, jv_cat]
    split <;> rfl
theorem lvargs_map (ad : Nat → Nat) : ∀ (vs : List Value) (i : Nat), lv_args i (vs.map (jv ad)) = jL ad (lv_args i vs)
  | [], _ => rfl
  | v :: vs, i => by
    rw [List.map_cons]
    show (i, jv ad v) :: lv_args (if (jv ad v).category = 2 then i + 2 else i + 1) (vs.map (jv ad)) = (i, jv ad v) :: jL ad (lv_args (if v.category = 2 then i + 2 else i + 1) vs)
    rw [jv_cat, lvargs_map ad vs]
/-- what the table of methods must be -/
def jtabs (G : List Cond) (mt : Nat → Option jM) : Prop := ∀ (a : Nat) (q : jM), mt a = some q → plainFor q.2.1 = true ∧ q.2.1.cls = q.2.2.2.2.2.2 ∧ (∀ (pc : Nat) (x : jI), q.1 pc = some x → jok G q.2.2.2.2.2.2 (q.2.1.name = "<init>") mt q.2.2.1 pc x)
theorem jchar_ok {x : Int32} (h : jchar x = true) : narrow .char (.int x) = .int x := by
  unfold jchar at h
  rw [Bool.and_eq_true, decide_eq_true_eq, decide_eq_true_eq] at h
  obtain ⟨h1, h2⟩ := h
  have key : ∀ n : Nat, n < 128 → narrow .char (.int (Int32.ofNat n)) = .int (Int32.ofNat n) := by decide +kernel
  have e : x = Int32.ofNat x.toInt.toNat := by
    apply Int32.toInt_inj.mp
    rw [Int32.toInt_ofNat_of_lt (by omega)]
    omega
  rw [e]
  exact key _ (by omega)
/-- every call that the interpreter finds an end of is a contract of the machine -/
theorem j_call {l : Launch} {G : List Cond} {xs : List Int32} {base : Nat} {ca : Nat → Nat} {cT : Nat → ClassId} {D : va_G} {A : Nat → Prop} {mt : Nat → Option jM} (hgd : ∀ w ∈ G, goodWord w = true) (hA : ∀ q, base ≤ q ↔ A q) (hmt : jtabs G mt) (hnat : ∀ (q : jM), mt 264 = some q → ∀ (d : Nat) (vs : List Value) (h : List jE) (r : jR), h.length ≤ jK0 → (∀ F : Nat, jKnown l G xs base ca cT D A mt d (jcall mt (jcs xs) F d)) → jnat d vs h = some r → (vs.length = q.2.2.2.2.2.1 ∧ (lg_sl vs).length ≤ q.2.2.2.1) → jMet l G xs base ca cT D A (d + 1) q vs h r) : ∀ d F : Nat, jKnown l G xs base ca cT D A mt d (jcall mt (jcs xs) F d) := by
  intro d
  induction d with
  | zero =>
    intro F a q vs h r _ h1
    cases h1
  | succ d ih =>
    intro F a q vs h r hq he hz
    have hm := jm_call _ _ _ _ _ he
    refine ⟨?_, hm.1, hm.2.1, hm.2.2 hz⟩
    unfold jcall at he
    rw [hq] at he
    simp only [] at he
    split at he
    · rename_i hc
      rcases Bool.eq_false_or_eq_true (a == 264) with hb9 | hb9
      · rw [hb9, cond_true] at he
        cases eq_of_beq hb9
        exact hnat q hq d vs h r hz ih he hc
      rw [hb9, cond_false] at he
      obtain ⟨t1, t2, t3⟩ := hmt a q hq
      obtain ⟨tab, y, cc, maxL, ret, nn, own⟩ := q
      have t2 : y.cls = own := t2
      subst t2
      refine va_MetF (cc := cc) (maxL := maxL) (ret := ret) t1 rfl ?_
      intro p e s m args below meth c s₁ B hml hv
      obtain ⟨rfl, hsz, hP, hK⟩ := hv
      have hts := atoms_spec (ws := Cond.code y cc maxL ret :: G) B.pre
      have hown : s.vm.findClass y.cls = some m.cls := findClass_of_methodNamed B.named
      have hin : y.name = "<init>" → meth.name = "<init>" := fun z => by
        have h9 := (name_of_methodNamed B.named B.method).1
        rw [h9, z]
      have hl := lv_entry (vs.map (jv (jad base ca))) (n := maxL) (by rw [lgsl_map]; exact hc.2)
      rw [lg_entry_eq]
      generalize (lg_sl (vs.map (jv (jad base ca))) ++ List.replicate (maxL - (lg_sl (vs.map (jv (jad base ca)))).length) Slot.unset).toArray = ls at hl ⊢
      rw [lvargs_map] at hl
      have hRc : (jrm (d + 1) h r).cells = r.2.length - h.length := rfl
      have key := j_run (p := p) (l := l) (e := e) (R := (headSpec (Cond.code y cc maxL ret :: G) (jrm (d + 1) h r)).room) (s := s) (m := m) (args := (vs.map (jv (jad base ca))).toArray) (below := below) (meth := meth) (c := c) (Q := MQ below (jQ base ca cT D A r) (vs.map (jv (jad base ca))).toArray s (r.2.length - h.length) (jsl r.2 - jsl h) A) (base := base) (ca := ca) (cT := cT) (D := D) (A := A) (nL := maxL) (n0 := h.length) (s0 := jsl h) (cc := cc) (G := G) (Ts := Cond.code y cc maxL ret :: G) (own := y.cls) (xs := xs) B.exec B.bytes hml hts (fun w hw => List.mem_cons_of_mem _ hw) hgd hown hK (fun q hq => (hA q).mp hq) hsz hin (ih F) (jm_call d) (Nat.le_refl _) (by show 60 * d + 60 ≤ 60 * (d + 1); omega) t3 (r := r) (by show r.2.length ≤ r.2.length - h.length + h.length; have := hm.1; omega) (by show jsl r.2 ≤ jsl r.2 - jsl h + jsl h; have := hm.2.1; omega) ?_ F (0, lv_args 0 vs, [], h) hz he
      · exact key hz s.heap [] ls 0 0 (Nat.zero_add _) (Nat.zero_add _) hl hP va_S.rf
      · intro pc L st hr hz2 H locs ls cells slots h1 h2 hl hP hS
        have h1 : cells + h.length = r.2.length := h1
        have h2 : slots + jsl h = jsl r.2 := h2
        have hz2 : r.2.length ≤ jK0 := hz2
        refine j_sized fun hz9 => ?_
        have hsz2 := j_size hsz h1 hP hS hz9
        obtain rfl : cells = r.2.length - h.length := by omega
        obtain rfl : slots = jsl r.2 - jsl h := by omega
        rcases hr with ⟨x, d1, d2, d3, d4⟩ | ⟨x, n, d1, d2, d3, d4⟩ | ⟨d1, d2, d3, d4⟩ | ⟨x, d1, d2, d3, d4⟩
        · subst d2
          have hq9 : ∀ t : State, t.heap = H → s.WarmedH t.vm → jQ base ca cT D A r (vs.map (jv (jad base ca))).toArray s (.returned (some (.int x))) t := fun t ht hW => ⟨⟨by rw [d3]; rfl, by rw [ht]; exact hsz2, by rw [ht]; exact hP⟩, hS.F ht⟩
          have hl9 := B.notSynchronized
          rcases d4 with d4 | ⟨d4, d5⟩ | ⟨d4, d5⟩ | ⟨d4, d5⟩
          · exact W.iret (v := x) B.exec B.bytes (B.returns.trans d4) hq9 hS.2.2 d1 hl9
          · exact W.zret (v := x) (ty := .boolean) B.exec B.bytes (B.returns.trans d4) (by rcases d5 with rfl | rfl <;> decide) hq9 hS.2.2 d1 hl9
          · exact W.zret (v := x) (ty := .byte) B.exec B.bytes (B.returns.trans d4) (by subst d5; decide) hq9 hS.2.2 d1 hl9
          · exact W.zret (v := x) (ty := .char) B.exec B.bytes (B.returns.trans d4) (jchar_ok d5) hq9 hS.2.2 d1 hl9
        · subst d2
          exact W.aret (v := .ref (jad base ca x)) (rt := .object n) B.exec B.bytes (B.returns.trans d4) (Or.inl ⟨n, rfl⟩) (Or.inr ⟨_, rfl⟩) (fun t ht hW => ⟨⟨by rw [d3]; rfl, by rw [ht]; exact hsz2, by rw [ht]; exact hP⟩, hS.F ht⟩) hS.2.2 d1 B.notSynchronized
        · subst d2
          exact W.vret B.exec B.bytes (B.returns.trans d4) (fun t ht hW => ⟨⟨by rw [d3]; rfl, by rw [ht]; exact hsz2, by rw [ht]; exact hP⟩, hS.F ht⟩) hS.2.2 d1 B.notSynchronized
        · subst d2
          exact W.lret (v := x) B.exec B.bytes (B.returns.trans d4) (fun t ht hW => ⟨⟨by rw [d3]; rfl, by rw [ht]; exact hsz2, by rw [ht]; exact hP⟩, hS.F ht⟩) hS.2.2 d1 B.notSynchronized
    · cases he
end
