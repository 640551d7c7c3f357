theorem jq9 (q : Nat) (b1 : jK0 + 10 ≤ q) (b2 : q < jK0 + 17) : ∃ k9 : Nat, k9 < 7 ∧ q = jK0 + (10 + k9) := ⟨q - (jK0 + 10), by omega, by omega⟩
section JA
variable {p : Program} {l : Launch} {e : Env} {R : Room} {s : State} {m : MethodId} {args : Array Value} {below : List Frame} {meth : Method} {c : Code} {Q : State → Prop} {base : Nat} {ca : Nat → Nat} {cT : Nat → ClassId} {D : va_G} {A : Nat → Prop} {nL n0 s0 : Nat}
variable {cc : ByteArray} {pc t : Nat} {L : List (Nat × Value)} {st : List Value} {h : List jE} {x' : jC} {G Ts : List Cond} {own : String} {xs : List Int32} {H : Heap} {locs : List Loc} {cells slots : Nat}
theorem j_sized {g : JFrame} (k : H.size ≤ s.heap.size + cells → W p l e R s m args below meth c H locs cells slots Q g) : W p l e R s m args below meth c H locs cells slots Q g := fun T hT X => k (by
  have h1 : (T.setVm s.vm).heap.size ≤ s.heap.size + cells := X.same.2.2.1
  have h2 : (T.setVm s.vm).heap = H := hT
  rwa [h2] at h1) T hT X
theorem j_size (hbase : s.heap.size = base + n0) (h1 : cells + n0 = h.length) (hP : va_P D vwCl (jw base cT (jad base ca) h) H) (hS : va_S A s.heap H locs) (hz : H.size ≤ s.heap.size + cells) : H.size = base + h.length := by
  have hlo : base + h.length ≤ H.size := by
    by_cases e0 : h.length = 0
    · have := hS.1
      omega
    · have hi : h.length - 1 < h.length := by omega
      have h9 := hP (h.length - 1) _ (jw_get (List.getElem?_eq_getElem hi))
      have := h9.lt
      have h10 : base + (h.length - 1) < H.size := this
      omega
  omega
theorem js_aald (hx : p.tables.exec = Jvm.exec) (hb : c.code = cc) (hK : jK xs ca cT D A s s.heap) (hd : decode cc pc = .ok (.aaload, 1)) (he : jaald (pc + 1) L st h = some (.inl x')) (kk : jWs p l e R s m args below meth c Q base ca cT D A nL n0 s0 x') : jWs p l e R s m args below meth c Q base ca cT D A nL n0 s0 (pc, L, st, h) := by
  unfold jaald at he
  split at he
  · rename_i j i r
    split at he
    · rename_i a ha
      split at he
      · cases he
      · rename_i hc
        split at he
        · rename_i q hq
          cases he
          obtain ⟨k, la⟩ := a
          have c1 : ¬ j < 0 := fun z => hc (Or.inl z)
          have c2 : k = 1 ∨ k = 2 ∨ k = 3 := Classical.byContradiction fun z => hc (Or.inr z)
          have hlt : j.toNatClampNeg < la.length := (List.getElem?_eq_some_iff.mp hq).1
          intro hz H locs ls cells slots h1 h2 hl hP hS
          have h1 : cells + n0 = h.length := h1
          have h2 : slots + s0 = jsl h := h2
          have hz : h.length ≤ jK0 := hz
          show W p l e R s m args below meth c H locs cells slots Q (F0 m pc ls (.int j :: .ref (jad base ca i) :: r.map (jv (jad base ca))))
          rw [jad_lt (jlt hz ha)]
          have kk2 := kk hz H locs ls cells slots h1 h2 hl hP hS
          have hin : vp_in j la.length := fun z => z.elim c1 (fun z => by omega)
          have hval : va_rf ((fun j => (la.getD j none).map (jad base ca)) j.toNatClampNeg) = Value.ref (jad base ca q) := by
            simp [List.getD, hq, va_rf]
          have go : ∀ ty : FieldType, (jtys cT)[k]? = some (cT k, ty) → refKind ty = true → W p l e R s m args below meth c H locs cells slots Q (F0 m pc ls (.int j :: .ref (base + i) :: r.map (jv (jad base ca)))) := fun ty ht hr =>
            W.aald (v := .ref (jad base ca q)) (ty := ty) hx hb (hP i _ (jw_get ha)) ((hK.1.2 k _ ht).1 la.length (fun j => va_rf ((la.getD j none).map (jad base ca)))) hr (fun z => by cases z) (by show ¬ (j < 0 ∨ (arrV _ _ _).slots.size ≤ _); rw [arrV_size]; exact hin) (by show (arrV _ _ _).slots[_]? = _; rw [arrV_read _ _ hlt, ← hval]) rfl rfl hd kk2
          rcases c2 with rfl | rfl | rfl
          · exact go _ rfl rfl
          · exact go _ rfl rfl
          · exact go _ rfl rfl
        · cases he
    · cases he
  · cases he
theorem js_aast (hx : p.tables.exec = Jvm.exec) (hb : c.code = cc) (hK : jK xs ca cT D A s s.heap) (hA : ∀ q, base ≤ q → A q) (hd : decode cc pc = .ok (.aastore, 1)) (he : jaast (pc + 1) L st h = some (.inl x')) (kk : jWs p l e R s m args below meth c Q base ca cT D A nL n0 s0 x') : jWs p l e R s m args below meth c Q base ca cT D A nL n0 s0 (pc, L, st, h) := by
  unfold jaast at he
  split at he
  · rename_i q j i r
    split at he
    · rename_i a ha
      split at he
      · rename_i hc
        obtain ⟨k, la⟩ := a
        obtain ⟨c0, c1, c2⟩ := hc
        have c2 : j.toNatClampNeg < la.length := c2
        have c0 : jmay h k q = true := c0
        cases he
        intro hz H locs ls cells slots h1 h2 hl hP hS
        have h1 : cells + n0 = h.length := h1
        have h2 : slots + s0 = jsl h := h2
        have hz : h.length ≤ jK0 := hz
        show W p l e R s m args below meth c H locs cells slots Q (F0 m pc ls (.ref (jad base ca q) :: .int j :: .ref (jad base ca i) :: r.map (jv (jad base ca))))
        rw [jad_lt (i := i) (jlt hz ha)]
        have hin : vp_in j la.length := fun z => z.elim c1 (fun z => by omega)
        have k2 : ∀ (H1 : Heap) (locs1 : List Loc), va_P D vwCl ((jw base cT (jad base ca) h).set i (base + i, .inl (cT k, la.length, .inr (.inr (.inr (.inr (va_up (fun j => (la.getD j none).map (jad base ca)) j.toNatClampNeg (some (jad base ca q))))))))) H1 → va_D A ((jw base cT (jad base ca) h).set i (base + i, .inl (cT k, la.length, .inr (.inr (.inr (.inr (va_up (fun j => (la.getD j none).map (jad base ca)) j.toNatClampNeg (some (jad base ca q))))))))) → va_S A s.heap H1 locs1 → W p l e R s m args below meth c H1 locs1 cells slots Q (F0 m (pc + 1) ls (r.map (jv (jad base ca)))) := by
          intro H1 locs1 hP1 _ hS1
          rw [jupq (jad base ca) la _ q c2, show la.length = (la.set j.toNatClampNeg (some q)).length by rw [List.length_set]] at hP1
          have hP2 : va_P D vwCl ((jw base cT (jad base ca) h).set i (base + i, jtr cT (jad base ca) (.inr (.inr (k, la.set j.toNatClampNeg (some q)))))) H1 := hP1
          rw [jw_set] at hP2
          exact kk (by rw [List.length_set]; exact hz) H1 locs1 ls cells slots (by rw [List.length_set]; exact h1) (by rw [jsl_set ha (by simp [jsz])]; exact h2) hl hP2 hS1
        unfold jmay at c0
        cases e3 : ((k : Nat) == 3) with
        | true =>
          cases eq_of_beq e3
          rw [e3, cond_true, Bool.and_eq_true] at c0
          have b1 : jK0 + 10 ≤ q := Nat.le_of_ble_eq_true c0.1
          have b2 : q < jK0 + 17 := Nat.le_of_ble_eq_true c0.2
          obtain ⟨k9, b4, rfl⟩ := jq9 q b1 b2
          have b3 : k9 < jstr.length := b4
          rw [jad_k] at k2 ⊢
          obtain ⟨cell, o1, o2, o3, o4⟩ := ((hK.2.2.2.1 k9 _ (List.getElem?_eq_getElem b3)).2.kept hS.2.1)
          exact vb_astq (D := D) (tys := jtys cT) (E := "java/lang/String") (C := "java/lang/String") hx hb hK.1 hP (jw_D hA) hS i 3 (jw_get ha) rfl ⟨cell, o1, o2, o3⟩ (fun comp c0 => vb_asgS comp c0) hin hd k2
        | false =>
          rw [e3, cond_false] at c0
          cases e2 : ((k : Nat) == 2) with
          | true =>
            cases eq_of_beq e2
            rw [e2, cond_true] at c0
            split at c0
            · rename_i o ho
              obtain ⟨ci, fs⟩ := o
              cases eq_of_beq c0
              rw [jad_lt (i := q) (jlt hz ho)] at k2 ⊢
              exact va_astq (D := D) (tys := jtys cT) (r := (RX5, TX5, 3)) hx hb hK.1 hP (jw_D hA) hS i 2 q 4 (jw_get ha) rfl (jw_get ho) rfl hin hd k2
            · cases c0
          | false =>
            rw [e2, cond_false] at c0
            cases c0
      · cases he
    · cases he
  · cases he
def jfnew (G : List Cond) (own : String) (i a : Nat) : Prop := ∃ (q : vw_C) (ty0 : Nat → FieldType), vwCl[a]? = some q ∧ (∀ w ∈ u_ws q.1 q.2.1 q.2.2, w ∈ G) ∧ (∀ k, k < q.2.2 → parseFieldDescriptor (q.2.1 k).2.2.1 = some (ty0 k)) ∧ Cond.classLink own i q.1 ∈ G ∧ Cond.instantiable q.1 q.2.2 ∈ G ∧ Cond.initialized q.1 ∈ G ∧ (jdf a).length = q.2.2 ∧ (∀ j, j < q.2.2 → defaultValue (ty0 j) = vp_V (jdf a) j)
theorem jdf_map (ad : Nat → Nat) (a : Nat) : (jdf a).map (jv ad) = jdf a := by
  unfold jdf
  split <;> rfl
theorem js_new (hx : p.tables.exec = Jvm.exec) (hb : c.code = cc) (hts : ∀ w ∈ Ts, w.before args s = true) (hG : ∀ w ∈ G, w ∈ Ts) (hown : s.vm.findClass own = some m.cls) (hK : jK xs ca cT D A s s.heap) (hA : ∀ q, base ≤ q → A q) (hbase : s.heap.size = base + n0) {i a : Nat} (hd : decode cc pc = .ok (.new i, 3)) (hf : jfnew G own i a) (he : jnew a (pc + 3) (jdf a) L st h = some (.inl x')) (hR1 : x'.2.2.2.length ≤ R.cells + n0) (hR2 : jsl x'.2.2.2 ≤ R.slots + s0) (kk : jWs p l e R s m args below meth c Q base ca cT D A nL n0 s0 x') : jWs p l e R s m args below meth c Q base ca cT D A nL n0 s0 (pc, L, st, h) := by
  obtain ⟨⟨C, T, N⟩, ty0, f1, f2, f3, f4, f5, f6, f7, f8⟩ := hf
  unfold jnew at he
  cases hk : Nat.blt h.length jK0 with
  | false => rw [hk] at he; cases he
  | true =>
    rw [hk] at he
    cases he
    have hk' : h.length < jK0 := Nat.le_of_ble_eq_true hk
    intro hz H locs ls cells slots h1 h2 hl hP hS
    have h1 : cells + n0 = h.length := h1
    have h2 : slots + s0 = jsl h := h2
    have hz : h.length ≤ jK0 := hz
    refine j_sized fun hz9 => ?_
    have hsz := j_size hbase h1 hP hS hz9
    have hKn := hK.1.1 a _ f1
    have hlen : (h ++ [(.inl (a, jdf a) : jE)]).length = h.length + 1 := by simp
    have hsl : jsl (h ++ [(.inl (a, jdf a) : jE)]) = jsl h + N := by
      rw [jsl_app]
      show jsl h + (jsz (.inl (a, jdf a)) + 0) = _
      show jsl h + ((jdf a).length + 0) = _
      rw [f7]
      rfl
    have r1 : h.length + 1 ≤ R.cells + n0 := by rw [← hlen]; exact hR1
    have r2 : jsl h + N ≤ R.slots + s0 := by rw [← hsl]; exact hR2
    refine W.newcK hx hb hown (hts _ (hG _ f4)) (hts _ (hG _ f5)) (hts _ (hG _ f6)) rfl hd (by omega) (by show slots + N ≤ R.slots; omega) hKn.2.1 hsz fun H1 kC hkC e1 z1 o1 => ?_
    have hP1 : va_P D vwCl (jw base cT (jad base ca) (h ++ [.inl (a, jdf a)])) H1 := by
      rw [jw_app]
      refine (hP.kept (fun k x hx9 => o1 x.1 (by rw [← hsz]; exact (hP k x hx9).lt))).app (fun k x hx9 => ?_)
      have hz : k < 1 := (List.getElem?_eq_some_iff.mp hx9).1
      rw [show k = 0 by omega] at hx9
      cases hx9
      refine ⟨_, f1, ?_⟩
      show t_OB _ _ _ _ H1 (vp_V ((jdf a).map (jv (jad base ca))))
      rw [jdf_map]
      exact (u_born ty0 hts (fun w hw => hG w (f2 w hw)) hKn hkC e1 f3).to f8
    have hS1 : va_S A s.heap H1 locs := ⟨Nat.le_trans hS.1 (by omega), fun x q1 q2 => (o1 x (by rw [← hsz]; exact Nat.lt_of_lt_of_le q1 hS.1)).trans (hS.2.1 x q1 q2), hS.2.2⟩
    have k2 := kk (by rw [hlen]; exact hk') H1 locs ls (cells + 1) (slots + N) (by rw [hlen]; omega) (by rw [hsl]; omega) hl hP1 hS1
    have k3 : W p l e R s m args below meth c H1 locs (cells + 1) (slots + N) Q (F0 m (pc + 3) ls (.ref (jad base ca h.length) :: st.map (jv (jad base ca)))) := k2
    rw [jad_lt hk'] at k3
    exact k3
theorem js_newa (hx : p.tables.exec = Jvm.exec) (hb : c.code = cc) (hts : ∀ w ∈ Ts, w.before args s = true) (hG : ∀ w ∈ G, w ∈ Ts) (hK : jK xs ca cT D A s s.heap) (hA : ∀ q, base ≤ q → A q) (hbase : s.heap.size = base + n0) (hd : decode cc pc = .ok (.newarray .int, 2)) (hf : Cond.arrayClass .int ∈ G) (he : jnewa (pc + 2) L st h = some (.inl x')) (hR1 : x'.2.2.2.length ≤ R.cells + n0) (hR2 : jsl x'.2.2.2 ≤ R.slots + s0) (kk : jWs p l e R s m args below meth c Q base ca cT D A nL n0 s0 x') : jWs p l e R s m args below meth c Q base ca cT D A nL n0 s0 (pc, L, st, h) := by
  unfold jnewa at he
  split at he
  · rename_i n r
    split at he
    · rename_i hc
      obtain ⟨c1, c2, c3⟩ := hc
      cases he
      intro hz H locs ls cells slots h1 h2 hl hP hS
      have h1 : cells + n0 = h.length := h1
      have h2 : slots + s0 = jsl h := h2
      have hz : h.length ≤ jK0 := hz
      refine j_sized fun hz9 => ?_
      have hsz := j_size hbase h1 hP hS hz9
      have hlen : (h ++ [(.inr (.inl (0, List.replicate n.toNatClampNeg 0)) : jE)]).length = h.length + 1 := by simp
      have hsl : jsl (h ++ [(.inr (.inl (0, List.replicate n.toNatClampNeg 0)) : jE)]) = jsl h + n.toNatClampNeg := by
        rw [jsl_app]
        show jsl h + ((List.replicate n.toNatClampNeg (0 : Int32)).length + 0) = _
        rw [List.length_replicate]
        rfl
      have r1 : h.length + 1 ≤ R.cells + n0 := by rw [← hlen]; exact hR1
      have r2 : jsl h + n.toNatClampNeg ≤ R.slots + s0 := by rw [← hsl]; exact hR2
      refine va_newaK hx hb (atype := .int) (hts _ (hG _ hf)) rfl hd rfl c1 rfl (by show n.toNatClampNeg * 4 ≤ 536870912; omega) (by omega) (by omega) hsz fun H1 cA e1 z1 o1 hAr hNm => ?_
      have hcA : cA = cT 0 := Option.some.inj (hNm.symm.trans (hK.1.2 0 _ rfl).2)
      subst hcA
      have hP1 : va_P D vwCl (jw base cT (jad base ca) (h ++ [.inr (.inl (0, List.replicate n.toNatClampNeg 0))])) H1 := by
        rw [jw_app]
        refine (hP.kept (fun k x hx9 => o1 x.1 (by rw [← hsz]; exact (hP k x hx9).lt))).app (fun k x hx9 => ?_)
        have hz : k < 1 := (List.getElem?_eq_some_iff.mp hx9).1
        rw [show k = 0 by omega] at hx9
        cases hx9
        show H1[base + h.length]? = some (vp_cell (cT 0) ((List.replicate n.toNatClampNeg (0 : Int32)).length, .inl (fun j => (List.replicate n.toNatClampNeg (0 : Int32)).getD j 0)))
        rw [e1]
        have hfun : (fun j => (List.replicate n.toNatClampNeg (0 : Int32)).getD j 0) = fun _ => 0 := by
          funext j
          rw [List.getD_eq_getElem?_getD, List.getElem?_replicate]
          split <;> rfl
        rw [hfun, List.length_replicate]
        rfl
      have hS1 : va_S A s.heap H1 locs := ⟨Nat.le_trans hS.1 (by omega), fun x q1 q2 => (o1 x (by rw [← hsz]; exact Nat.lt_of_lt_of_le q1 hS.1)).trans (hS.2.1 x q1 q2), hS.2.2⟩
      have k2 := kk (by rw [hlen]; exact c3) H1 locs ls (cells + 1) (slots + n.toNatClampNeg) (by rw [hlen]; omega) (by rw [hsl]; omega) hl hP1 hS1
      have k3 : W p l e R s m args below meth c H1 locs (cells + 1) (slots + n.toNatClampNeg) Q (F0 m (pc + 2) ls (.ref (jad base ca h.length) :: r.map (jv (jad base ca)))) := k2
      rw [jad_lt c3] at k3
      exact k3
    · cases he
  · cases he
end JA
