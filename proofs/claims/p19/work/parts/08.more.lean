section JB
variable {p : Program} {l : Launch} {e : Env} {R : Room} {s : State} {m : MethodId} {args : Array Value} {below : List Frame} {meth : Method} {c : Code} {Q : State → Prop} {base : Nat} {ca : Nat → Nat} {cT : Nat → ClassId} {D : va_G} {A : Nat → Prop} {nL n0 s0 : Nat}
variable {cc : ByteArray} {pc t : Nat} {L : List (Nat × Value)} {st : List Value} {h : List jE} {x' : jC} {G Ts : List Cond} {own : String} {xs : List Int32} {H : Heap} {locs : List Loc} {cells slots : Nat}
/-- kinds 2 and 3: what an array of them is made over -/
def jover (a : Nat) : String := bif a == 2 then "FoamHead$Text" else "java/lang/String"
theorem js_newq (hx : p.tables.exec = Jvm.exec) (hb : c.code = cc) (hts : ∀ w ∈ Ts, w.before args s = true) (hG : ∀ w ∈ G, w ∈ Ts) (hown : s.vm.findClass own = some m.cls) (hK : jK xs ca cT D A s s.heap) (hA : ∀ q, base ≤ q → A q) (hbase : s.heap.size = base + n0) {i a : Nat} (hd : decode cc pc = .ok (.anewarray i, 3)) (hf : (a = 2 ∨ a = 3) ∧ Cond.classLink own i (jover a) ∈ G) (he : jnewq a (pc + 3) L st h = some (.inl x')) (hR1 : x'.2.2.2.length ≤ R.cells + n0) (hR2 : jsl x'.2.2.2 ≤ R.slots + s0) (kk : jWs p l e R s m args below meth c Q base ca cT D A nL n0 s0 x') : jWs p l e R s m args below meth c Q base ca cT D A nL n0 s0 (pc, L, st, h) := by
  obtain ⟨hf, hf2⟩ := hf
  unfold jnewq at he
  split at he
  · rename_i n r
    split at he
    · rename_i hc
      obtain ⟨c1, c2, c3⟩ := hc
      cases he
      intro hz H locs ls cells slots h1 h2 hl hP hS
      have h1 : cells + n0 = h.length := h1
      have h2 : slots + s0 = jsl h := h2
      have hz : h.length ≤ jK0 := hz
      refine j_sized fun hz9 => ?_
      have hsz := j_size hbase h1 hP hS hz9
      have hlen : (h ++ [(.inr (.inr (a, List.replicate n.toNatClampNeg none)) : jE)]).length = h.length + 1 := by simp
      have hsl : jsl (h ++ [(.inr (.inr (a, List.replicate n.toNatClampNeg none)) : jE)]) = jsl h + n.toNatClampNeg := by
        rw [jsl_app]
        show jsl h + ((List.replicate n.toNatClampNeg (none : Option Nat)).length + 0) = _
        rw [List.length_replicate]
        rfl
      have r1 : h.length + 1 ≤ R.cells + n0 := by rw [← hlen]; exact hR1
      have r2 : jsl h + n.toNatClampNeg ≤ R.slots + s0 := by rw [← hsl]; exact hR2
      have hover : va_AO (jover a) s ∧ (jtys cT)[a]? = some (cT a, .object (jover a)) := by
        rcases hf with rfl | rfl
        · exact ⟨hK.2.2.2.2.2.1, rfl⟩
        · exact ⟨hK.2.2.2.2.2.2.1, rfl⟩
      refine W.anew hx hb hown (hts _ (hG _ hf2)) (va_AO.use hover.1) rfl hd rfl c1 (by omega) (by omega) (by omega) fun cA kA comp f1 f2 f3 f4 => ?_
      generalize hH1 : H.push ({ cls := cA, slots := Array.replicate n.toNatClampNeg .null, vm := .none } : Cell) = H1
      have z1 : H1.size = H.size + 1 := by rw [← hH1, Array.size_push]
      have e1 : H1[H.size]? = some (arrV cA n.toNatClampNeg (fun _ => .null)) := by rw [← hH1, Array.getElem?_push_size, ← arrV_new]
      have o1 : ∀ q : Nat, q < H.size → H1[q]? = H[q]? := fun q hq => by rw [← hH1, Array.getElem?_push, if_neg (Nat.ne_of_lt hq)]
      obtain ⟨kA2, comp2, g1, g2, g3, g4⟩ : va_RA s (cT a) (.object (jover a)) := (hK.1.2 a _ hover.2).2
      have hcA : cA = cT a := Option.some.inj (f1.symm.trans g4)
      subst hcA
      have hP1 : va_P D vwCl (jw base cT (jad base ca) (h ++ [.inr (.inr (a, List.replicate n.toNatClampNeg none))])) H1 := by
        rw [jw_app]
        refine (hP.kept (fun k x hx9 => o1 x.1 ((hP k x hx9).lt))).app (fun k x hx9 => ?_)
        have hz : k < 1 := (List.getElem?_eq_some_iff.mp hx9).1
        rw [show k = 0 by omega] at hx9
        cases hx9
        show H1[base + h.length]? = some (vp_cell (cT a) ((List.replicate n.toNatClampNeg (none : Option Nat)).length, .inr (.inr (.inr (.inr (fun j => ((List.replicate n.toNatClampNeg (none : Option Nat)).getD j none).map (jad base ca)))))))
        rw [← hsz, e1]
        have hfun : (fun j => ((List.replicate n.toNatClampNeg (none : Option Nat)).getD j none).map (jad base ca)) = fun _ => none := by
          funext j
          rw [List.getD_eq_getElem?_getD, List.getElem?_replicate]
          split <;> rfl
        rw [hfun, List.length_replicate, vp_cell_q]
        rfl
      have hS1 : va_S A s.heap H1 locs := ⟨Nat.le_trans hS.1 (by omega), fun x q1 q2 => (o1 x (Nat.lt_of_lt_of_le q1 hS.1)).trans (hS.2.1 x q1 q2), hS.2.2⟩
      have k2 := kk (by rw [hlen]; exact c3) H1 locs ls (cells + 1) (slots + n.toNatClampNeg) (by rw [hlen]; omega) (by rw [hsl]; omega) hl hP1 hS1
      have k3 : W p l e R s m args below meth c H1 locs (cells + 1) (slots + n.toNatClampNeg) Q (F0 m (pc + 3) ls (.ref (jad base ca h.length) :: r.map (jv (jad base ca)))) := k2
      rw [jad_lt c3, ← hsz] at k3
      exact k3
    · cases he
  · cases he
theorem jw_app2 {h g : List jE} : jw base cT (jad base ca) (h ++ g) = jw base cT (jad base ca) h ++ g.mapIdx (fun i e => (base + (i + h.length), jtr cT (jad base ca) e)) := by
  unfold jw
  rw [List.mapIdx_append]
theorem jsl_rep (e : jE) : ∀ n : Nat, jsl (List.replicate n e) = n * jsz e
  | 0 => by
    rw [Nat.zero_mul]
    rfl
  | n + 1 => by
    have h1 : jsl (List.replicate (n + 1) e) = jsz e + jsl (List.replicate n e) := rfl
    rw [h1, jsl_rep e n, Nat.succ_mul, Nat.add_comm]
theorem js_newg (hx : p.tables.exec = Jvm.exec) (hb : c.code = cc) (hts : ∀ w ∈ Ts, w.before args s = true) (hG : ∀ w ∈ G, w ∈ Ts) (hown : s.vm.findClass own = some m.cls) (hK : jK xs ca cT D A s s.heap) (hA : ∀ q, base ≤ q → A q) (hbase : s.heap.size = base + n0) {i : Nat} (hd : decode cc pc = .ok (.multianewarray i 2, 4)) (hf : Cond.classLink own i "[[I" ∈ G ∧ Cond.arrayClass .int ∈ G) (he : jnewg 1 (pc + 4) L st h = some (.inl x')) (hR1 : x'.2.2.2.length ≤ R.cells + n0) (hR2 : jsl x'.2.2.2 ≤ R.slots + s0) (kk : jWs p l e R s m args below meth c Q base ca cT D A nL n0 s0 x') : jWs p l e R s m args below meth c Q base ca cT D A nL n0 s0 (pc, L, st, h) := by
  unfold jnewg at he
  split at he
  · rename_i y n r
    split at he
    · rename_i hc
      obtain ⟨c1, c2, c3, c4, c5⟩ := hc
      cases he
      intro hz H locs ls cells slots h1 h2 hl hP hS
      have h1 : cells + n0 = h.length := h1
      have h2 : slots + s0 = jsl h := h2
      have hz : h.length ≤ jK0 := hz
      refine j_sized fun hz9 => ?_
      have hsz := j_size hbase h1 hP hS hz9
      generalize hN : n.toNatClampNeg = N at *
      generalize hM : y.toNatClampNeg = M at *
      generalize hg9 : ((.inr (.inr (1, (List.range N).map (fun i => some (h.length + 1 + i)))) :: List.replicate N (.inr (.inl (0, List.replicate M 0)))) : List jE) = g9 at *
      have hlen : (h ++ g9).length = h.length + (N + 1) := by rw [← hg9]; simp
      have hsl : jsl (h ++ g9) = jsl h + (N + N * M) := by
        rw [jsl_app, ← hg9]
        show jsl h + (jsz (.inr (.inr (1, (List.range N).map (fun i => some (h.length + 1 + i))))) + jsl (List.replicate N (.inr (.inl (0, List.replicate M 0))))) = _
        rw [jsl_rep]
        simp [jsz]
      have r1 : h.length + (N + 1) ≤ R.cells + n0 := by rw [← hlen]; exact hR1
      have r2 : jsl h + (N + N * M) ≤ R.slots + s0 := by rw [← hsl]; exact hR2
      intro T hT X
      obtain ⟨vm₁, cA, comp, -, fA, fC, hO, -, X', step⟩ := X.multianewarray2F hx hown (ty := .int) (index := i) (hts _ (hG _ hf.1)) hK.2.2.2.2.2.2.2.1 (hts _ (hG _ hf.2)) (g := F0 m pc ls (.int y :: .int n :: r.map (jv (jad base ca)))) rfl (by rw [hb]; exact hd) rfl c1 c2 (by omega) (by rw [hM]; show M * 4 ≤ 536870912; omega) (by omega) rfl rfl (by omega) (by rw [hN, hM]; omega)
      rw [hN, hM] at X' step
      have ecA : cA = cT 1 := Option.some.inj (fA.symm.trans (hK.1.2 1 _ rfl).2)
      have eC : comp = cT 0 := Option.some.inj (fC.symm.trans (hK.1.2 0 _ rfl).2)
      subst ecA
      subst eC
      generalize hF : Jvm.Free.Multi.fill (T.setVm vm₁) (cT 1) (cT 0) N M (defaultValue .int) N = F at X' step
      have hTh : (T.setVm vm₁).heap = H := hT
      obtain ⟨f1, f2, -, -⟩ := Jvm.Free.Multi.fill_facts (T.setVm vm₁) (cT 1) (cT 0) N M (defaultValue .int) N
      rw [hF, hTh] at f1 f2
      have o1 : ∀ x : Nat, x < H.size → F.heap[x]? = H[x]? := fun x hx => by
        have := Jvm.Free.Multi.fill_old (T.setVm vm₁) (cT 1) (cT 0) N M (defaultValue .int) (a := x) (by rw [hTh]; exact hx) N
        rw [hF, hTh] at this
        exact this
      have hrow : ∀ j : Nat, j < N → F.heap[H.size + 1 + j]? = some (Jvm.Free.Multi.innerC (cT 0) M (defaultValue .int)) := fun j hj => by
        have := Jvm.Free.Multi.fill_inner (T.setVm vm₁) (cT 1) (cT 0) N M (defaultValue .int) N j hj
        rw [hF, hTh] at this
        exact this
      have hout : Jvm.Free.Multi.outerC (cT 1) N H.size N = vp_cell (cT 1) (N, .inr (.inr (.inr (.inr (fun i => if i < N then some (H.size + 1 + i) else none))))) := by
        rw [vp_cell_q]
        exact vr_outer (cT 1) N H.size N
      rw [hout] at f2
      have hP1 : va_P D vwCl (jw base cT (jad base ca) (h ++ g9)) F.heap := by
        rw [jw_app2]
        refine (hP.kept (fun k x hx9 => o1 x.1 ((hP k x hx9).lt))).app (fun k x hx9 => ?_)
        rw [List.getElem?_mapIdx, ← hg9] at hx9
        cases k with
        | zero =>
          cases hx9
          show F.heap[base + (0 + h.length)]? = some (vp_cell (cT 1) (((List.range N).map (fun i => some (h.length + 1 + i))).length, .inr (.inr (.inr (.inr (fun j => (((List.range N).map (fun i => some (h.length + 1 + i))).getD j none).map (jad base ca)))))))
          rw [Nat.zero_add, ← hsz, f2, List.length_map, List.length_range]
          congr 7
          funext j
          rw [List.getD_eq_getElem?_getD, List.getElem?_map]
          by_cases hj : j < N
          · rw [List.getElem?_range hj, if_pos hj]
            show some (H.size + 1 + j) = some (jad base ca (h.length + 1 + j))
            rw [jad_lt (by omega), hsz]
            congr 1
            omega
          · rw [List.getElem?_eq_none (by rw [List.length_range]; omega), if_neg hj]
            rfl
        | succ k =>
          have hk : k < N := by
            by_cases hk : k < N
            · exact hk
            · rw [List.getElem?_cons_succ, List.getElem?_replicate, if_neg hk] at hx9
              cases hx9
          rw [List.getElem?_cons_succ, List.getElem?_replicate, if_pos hk] at hx9
          cases hx9
          show F.heap[base + (k + 1 + h.length)]? = some (vp_cell (cT 0) ((List.replicate M (0 : Int32)).length, .inl (fun j => (List.replicate M (0 : Int32)).getD j 0)))
          have hfun : (fun j => (List.replicate M (0 : Int32)).getD j 0) = fun _ => 0 := by
            funext j
            rw [List.getD_eq_getElem?_getD, List.getElem?_replicate]
            split <;> rfl
          rw [hfun, List.length_replicate, show base + (k + 1 + h.length) = H.size + 1 + k by omega, hrow k hk]
          congr 1
          show ({ cls := cT 0, slots := Array.replicate M (.int 0), vm := .none } : Cell) = _
          rw [arrV_new, vp_cell_i]
      have hS1 : va_S A s.heap F.heap locs := ⟨Nat.le_trans hS.1 (by omega), fun x q1 q2 => (o1 x (Nat.lt_of_lt_of_le q1 hS.1)).trans (hS.2.1 x q1 q2), hS.2.2⟩
      have k2 := kk (by show (h ++ g9).length ≤ jK0; omega) F.heap locs ls (cells + 1 + N) (slots + N + N * M) (by show _ = (h ++ g9).length; omega) (by show _ = jsl (h ++ g9); omega) hl hP1 hS1
      have k3 : W p l e R s m args below meth c F.heap locs (cells + 1 + N) (slots + N + N * M) Q (F0 m (pc + 4) ls (.ref (jad base ca h.length) :: r.map (jv (jad base ca)))) := k2
      rw [jad_lt (by omega), ← hsz] at k3
      obtain ⟨t9, a1, b1⟩ := k3 F rfl X'
      refine ⟨t9, step t9 ?_, b1⟩
      rw [hT]
      exact a1
    · cases he
  · cases he
theorem js_copy (hx : p.tables.exec = Jvm.exec) (hb : c.code = cc) (hml : c.maxLocals = nL) (hts : ∀ w ∈ Ts, w.before args s = true) (hG : ∀ w ∈ G, w ∈ Ts) (hown : s.vm.findClass own = some m.cls) (hK : jK xs ca cT D A s s.heap) (hA : ∀ q, base ≤ q → A q) (hfr : 1 ≤ R.frames) (hlo : 60 ≤ R.locals) {i : Nat} (hd : decode cc pc = .ok (.invokestatic i, 3)) (hf : Cond.methodLink own i arraycopyName ∈ G ∧ Cond.native arraycopyName ∈ G ∧ Cond.static arraycopyName ∈ G ∧ Cond.initialized "java/lang/System" ∈ G) (he : jcopy (pc + 3) L st h = some (.inl x')) (kk : jWs p l e R s m args below meth c Q base ca cT D A nL n0 s0 x') : jWs p l e R s m args below meth c Q base ca cT D A nL n0 s0 (pc, L, st, h) := by
  obtain ⟨f1, f2, f3, f4⟩ := hf
  unfold jcopy at he
  split at he
  · rename_i n dp d sp q r
    split at he
    · rename_i f g hq hd9
      split at he
      · rename_i hc
        obtain ⟨t0, la⟩ := f
        obtain ⟨t1, lb⟩ := g
        obtain ⟨rfl, rfl, c1, c2, c3, c4, c5, c6⟩ := hc
        have c4 : sp.toNatClampNeg + n.toNatClampNeg ≤ la.length := c4
        have c5 : dp.toNatClampNeg + n.toNatClampNeg ≤ lb.length := c5
        cases he
        intro hz H locs ls cells slots h1 h2 hl hP hS
        show W p l e R s m args below meth c H locs cells slots Q (F0 m pc ls (.int n :: .int dp :: .ref (jad base ca d) :: .int sp :: .ref (jad base ca q) :: r.map (jv (jad base ca))))
        rw [jad_lt (jlt hz hq), jad_lt (jlt hz hd9)]
        refine va_copyi (D := D) (tys := jtys cT) hx hb (hml.trans hl.1.symm) hown (hts _ (hG _ f1)) (hts _ (hG _ f2)) (hts _ (hG _ f3)) (hts _ (hG _ f4)) hK.1 hP (jw_D hA) hS q d 0 0 (jw_get hq) (jw_get hd9) rfl rfl rfl c1 c2 c3 c4 c5 (fun _ _ => rfl) hfr ?_ hd (fun H1 locs1 hP1 _ hS1 => ?_)
        · rw [jv_sum]
          have : nativeFrameWords "java/lang/System" "arraycopy" 5 ≤ 40 := by decide
          omega
        · rw [jcpy_f _ _ _ _ _ c5, show lb.length = (jcpy la lb sp.toNatClampNeg dp.toNatClampNeg n.toNatClampNeg).length by rw [jcpy_len]] at hP1
          have hP2 : va_P D vwCl ((jw base cT (jad base ca) h).set d (base + d, jtr cT (jad base ca) (.inr (.inl (0, jcpy la lb sp.toNatClampNeg dp.toNatClampNeg n.toNatClampNeg))))) H1 := hP1
          rw [jw_set] at hP2
          exact kk (by rw [List.length_set]; exact hz) H1 locs1 ls cells slots (by rw [List.length_set]; exact h1) (by rw [jsl_set hd9 (by simp [jsz, jcpy_len])]; exact h2) hl hP2 hS1
      · cases he
    · cases he
  · cases he
theorem js_tsw (hx : p.tables.exec = Jvm.exec) (hb : c.code = cc) {dflt lo hi : Int} {offs : Array Int} {len : Nat} (hd : decode cc pc = .ok (.tableswitch dflt lo hi offs, len)) (he : jtsw dflt lo hi offs.toList pc L st h = some (.inl x')) (kk : jWs p l e R s m args below meth c Q base ca cT D A nL n0 s0 x') : jWs p l e R s m args below meth c Q base ca cT D A nL n0 s0 (pc, L, st, h) := by
  unfold jtsw at he
  split at he
  · rename_i x r
    split at he
    · rename_i h9
      split at he
      · rename_i h8
        cases he
        exact js_st (t := ((pc : Int) + dflt).toNat) (st' := r) (fun H locs ls cells slots k => lv_tableOut hx hb hd h9 (Int.toNat_of_nonneg h8).symm k) kk
      · cases he
    · rename_i h9
      split at he
      · rename_i o ho
        split at he
        · rename_i h8
          cases he
          exact js_st (t := ((pc : Int) + o).toNat) (st' := r) (fun H locs ls cells slots k => lv_tableIn hx hb hd (fun z => h9 (Or.inl z)) (fun z => h9 (Or.inr z)) (by rw [← Array.getElem?_toList]; exact ho) (Int.toNat_of_nonneg h8).symm k) kk
        · cases he
      · cases he
  · cases he
theorem js_lsw (hx : p.tables.exec = Jvm.exec) (hb : c.code = cc) {dflt : Int} {ps : Array (Int × Int)} {len : Nat} (hd : decode cc pc = .ok (.lookupswitch dflt ps, len)) (he : jlsw dflt ps.toList pc L st h = some (.inl x')) (kk : jWs p l e R s m args below meth c Q base ca cT D A nL n0 s0 x') : jWs p l e R s m args below meth c Q base ca cT D A nL n0 s0 (pc, L, st, h) := by
  unfold jlsw at he
  split at he
  · rename_i x r
    split at he
    · rename_i h9
      cases he
      exact js_st (t := ((pc : Int) + Op.lookupswitch.offset ps.toList dflt x.toInt).toNat) (st' := r) (fun H locs ls cells slots k => lv_lookup hx hb hd h9.1 rfl (Int.toNat_of_nonneg h9.2).symm k) kk
    · cases he
  · cases he
end JB
