section JT
variable {p : Program} {l : Launch} {e : Env} {R : Room} {s : State} {m : MethodId} {args : Array Value} {below : List Frame} {meth : Method} {c : Code} {Q : State → Prop} {base : Nat} {ca : Nat → Nat} {cT : Nat → ClassId} {D : va_G} {A : Nat → Prop} {nL n0 s0 : Nat}
variable {cc : ByteArray} {G Ts : List Cond} {own : String} {xs : List Int32}
/-- a run of the interpreter is a run of the machine -/
theorem j_run (hx : p.tables.exec = Jvm.exec) (hb : c.code = cc) (hml : c.maxLocals = nL) (hts : ∀ w ∈ Ts, w.before args s = true) (hG : ∀ w ∈ G, w ∈ Ts) (hgd : ∀ w ∈ G, goodWord w = true) (hown : s.vm.findClass own = some m.cls) (hK : jK xs ca cT D A s s.heap) (hA : ∀ q, base ≤ q → A q) (hbase : s.heap.size = base + n0) {ini : Prop} (hin : ini → meth.name = "<init>") {mt : Nat → Option jM} {d : Nat} {call : Nat → List Value → List jE → Option jR} (hM : jKnown l G xs base ca cT D A mt d call) (hmo : ∀ (a : Nat) (vs : List Value) (h : List jE) (r : jR), call a vs h = some r → jP h r.2) (hfr : d + 1 ≤ R.frames) (hlo : 60 * d + 60 ≤ R.locals)
    {ret : Option FieldType} {tab : Nat → Option jI} (htab : ∀ (pc : Nat) (x : jI), tab pc = some x → jok G own ini mt cc pc x) {r : jR} (hR1 : r.2.length ≤ R.cells + n0) (hR2 : jsl r.2 ≤ R.slots + s0) (kr : ∀ (pc : Nat) (L : List (Nat × Value)) (st : List Value), jrat cc ret pc st r.1 → jWs p l e R s m args below meth c Q base ca cT D A nL n0 s0 (pc, L, st, r.2)) :
    ∀ (f : Nat) (x : jC), x.2.2.2.length ≤ jK0 → jrun (jcs xs) call nL ret tab f x = some r → jWs p l e R s m args below meth c Q base ca cT D A nL n0 s0 x := by
  intro f
  induction f with
  | zero =>
    intro x _ h
    cases h
  | succ f ih =>
    intro x hz h
    obtain ⟨pc, L, st, h0⟩ := x
    have hm := jm_run hmo _ _ _ h
    unfold jrun jstep at h
    cases ht : tab pc with
    | none => simp only [ht] at h; cases h
    | some y =>
      simp only [ht] at h
      cases he : jexec (jcs xs) call nL ret y pc L st h0 with
      | none => simp only [he] at h; cases h
      | some o =>
        simp only [he] at h
        cases o with
        | inr r' =>
          have h : some r' = some r := h
          cases h
          obtain ⟨g1, g2⟩ := jr_exec (htab pc y ht) he
          rw [← g2]
          exact kr pc L st g1
        | inl c' =>
          have h : jrun (jcs xs) call nL ret tab f c' = some r := h
          have hm2 := jm_run hmo _ _ _ h
          have hm1 := jm_exec hmo he
          exact j_step hx hb hml hts hG hgd hown hK hA hbase hin hM hfr hlo (htab pc y ht) he hz (Nat.le_trans hm2.1 hR1) (Nat.le_trans hm2.2.1 hR2) (ih c' (hm1.2.2 hz) h)
end JT
theorem lgsl_map (ad : Nat → Nat) (vs : List Value) : (lg_sl (vs.map (jv ad))).length = (lg_sl vs).length := by
  unfold lg_sl
  induction vs with
  | nil => rfl
  | cons v r ih =>
    rw [List.map_cons, List.flatMap_cons, List.flatMap_cons, List.length_append, List.length_append, ih, jv_cat]
    split <;> rfl
theorem lvargs_map (ad : Nat → Nat) : ∀ (vs : List Value) (i : Nat), lv_args i (vs.map (jv ad)) = jL ad (lv_args i vs)
  | [], _ => rfl
  | v :: vs, i => by
    rw [List.map_cons]
    show (i, jv ad v) :: lv_args (if (jv ad v).category = 2 then i + 2 else i + 1) (vs.map (jv ad)) = (i, jv ad v) :: jL ad (lv_args (if v.category = 2 then i + 2 else i + 1) vs)
    rw [jv_cat, lvargs_map ad vs]
/-- what the table of methods must be -/
def jtabs (G : List Cond) (mt : Nat → Option jM) : Prop := ∀ (a : Nat) (q : jM), mt a = some q → plainFor q.2.1 = true ∧ q.2.1.cls = q.2.2.2.2.2.2 ∧ (∀ (pc : Nat) (x : jI), q.1 pc = some x → jok G q.2.2.2.2.2.2 (q.2.1.name = "<init>") mt q.2.2.1 pc x)
theorem jchar_ok {x : Int32} (h : jchar x = true) : narrow .char (.int x) = .int x := by
  unfold jchar at h
  rw [Bool.and_eq_true, decide_eq_true_eq, decide_eq_true_eq] at h
  obtain ⟨h1, h2⟩ := h
  have key : ∀ n : Nat, n < 128 → narrow .char (.int (Int32.ofNat n)) = .int (Int32.ofNat n) := by decide +kernel
  have e : x = Int32.ofNat x.toInt.toNat := by
    apply Int32.toInt_inj.mp
    rw [Int32.toInt_ofNat_of_lt (by omega)]
    omega
  rw [e]
  exact key _ (by omega)
/-- every call that the interpreter finds an end of is a contract of the machine -/
theorem j_call {l : Launch} {G : List Cond} {xs : List Int32} {base : Nat} {ca : Nat → Nat} {cT : Nat → ClassId} {D : va_G} {A : Nat → Prop} {mt : Nat → Option jM} (hgd : ∀ w ∈ G, goodWord w = true) (hA : ∀ q, base ≤ q ↔ A q) (hmt : jtabs G mt) (hnat : ∀ (q : jM), mt 264 = some q → ∀ (d : Nat) (vs : List Value) (h : List jE) (r : jR), h.length ≤ jK0 → (∀ F : Nat, jKnown l G xs base ca cT D A mt d (jcall mt (jcs xs) F d)) → jnat d vs h = some r → (vs.length = q.2.2.2.2.2.1 ∧ (lg_sl vs).length ≤ q.2.2.2.1) → jMet l G xs base ca cT D A (d + 1) q vs h r) : ∀ d F : Nat, jKnown l G xs base ca cT D A mt d (jcall mt (jcs xs) F d) := by
  intro d
  induction d with
  | zero =>
    intro F a q vs h r _ h1
    cases h1
  | succ d ih =>
    intro F a q vs h r hq he hz
    have hm := jm_call _ _ _ _ _ he
    refine ⟨?_, hm.1, hm.2.1, hm.2.2 hz⟩
    unfold jcall at he
    rw [hq] at he
    simp only [] at he
    split at he
    · rename_i hc
      rcases Bool.eq_false_or_eq_true (a == 264) with hb9 | hb9
      · rw [hb9, cond_true] at he
        cases eq_of_beq hb9
        exact hnat q hq d vs h r hz ih he hc
      rw [hb9, cond_false] at he
      obtain ⟨t1, t2, t3⟩ := hmt a q hq
      obtain ⟨tab, y, cc, maxL, ret, nn, own⟩ := q
      have t2 : y.cls = own := t2
      subst t2
      refine va_MetF (cc := cc) (maxL := maxL) (ret := ret) t1 rfl ?_
      intro p e s m args below meth c s₁ B hml hv
      obtain ⟨rfl, hsz, hP, hK⟩ := hv
      have hts := atoms_spec (ws := Cond.code y cc maxL ret :: G) B.pre
      have hown : s.vm.findClass y.cls = some m.cls := findClass_of_methodNamed B.named
      have hin : y.name = "<init>" → meth.name = "<init>" := fun z => by
        have h9 := (name_of_methodNamed B.named B.method).1
        rw [h9, z]
      have hl := lv_entry (vs.map (jv (jad base ca))) (n := maxL) (by rw [lgsl_map]; exact hc.2)
      rw [lg_entry_eq]
      generalize (lg_sl (vs.map (jv (jad base ca))) ++ List.replicate (maxL - (lg_sl (vs.map (jv (jad base ca)))).length) Slot.unset).toArray = ls at hl ⊢
      rw [lvargs_map] at hl
      have hRc : (jrm (d + 1) h r).cells = r.2.length - h.length := rfl
      have key := j_run (p := p) (l := l) (e := e) (R := (headSpec (Cond.code y cc maxL ret :: G) (jrm (d + 1) h r)).room) (s := s) (m := m) (args := (vs.map (jv (jad base ca))).toArray) (below := below) (meth := meth) (c := c) (Q := MQ below (jQ base ca cT D A r) (vs.map (jv (jad base ca))).toArray s (r.2.length - h.length) (jsl r.2 - jsl h) A) (base := base) (ca := ca) (cT := cT) (D := D) (A := A) (nL := maxL) (n0 := h.length) (s0 := jsl h) (cc := cc) (G := G) (Ts := Cond.code y cc maxL ret :: G) (own := y.cls) (xs := xs) B.exec B.bytes hml hts (fun w hw => List.mem_cons_of_mem _ hw) hgd hown hK (fun q hq => (hA q).mp hq) hsz hin (ih F) (jm_call d) (Nat.le_refl _) (by show 60 * d + 60 ≤ 60 * (d + 1); omega) t3 (r := r) (by show r.2.length ≤ r.2.length - h.length + h.length; have := hm.1; omega) (by show jsl r.2 ≤ jsl r.2 - jsl h + jsl h; have := hm.2.1; omega) ?_ F (0, lv_args 0 vs, [], h) hz he
      · exact key hz s.heap [] ls 0 0 (Nat.zero_add _) (Nat.zero_add _) hl hP va_S.rf
      · intro pc L st hr hz2 H locs ls cells slots h1 h2 hl hP hS
        have h1 : cells + h.length = r.2.length := h1
        have h2 : slots + jsl h = jsl r.2 := h2
        have hz2 : r.2.length ≤ jK0 := hz2
        refine j_sized fun hz9 => ?_
        have hsz2 := j_size hsz h1 hP hS hz9
        obtain rfl : cells = r.2.length - h.length := by omega
        obtain rfl : slots = jsl r.2 - jsl h := by omega
        rcases hr with ⟨x, d1, d2, d3, d4⟩ | ⟨x, n, d1, d2, d3, d4⟩ | ⟨d1, d2, d3, d4⟩ | ⟨x, d1, d2, d3, d4⟩
        · subst d2
          have hq9 : ∀ t : State, t.heap = H → s.WarmedH t.vm → jQ base ca cT D A r (vs.map (jv (jad base ca))).toArray s (.returned (some (.int x))) t := fun t ht hW => ⟨⟨by rw [d3]; rfl, by rw [ht]; exact hsz2, by rw [ht]; exact hP⟩, hS.F ht⟩
          have hl9 := B.notSynchronized
          rcases d4 with d4 | ⟨d4, d5⟩ | ⟨d4, d5⟩ | ⟨d4, d5⟩
          · exact W.iret (v := x) B.exec B.bytes (B.returns.trans d4) hq9 hS.2.2 d1 hl9
          · exact W.zret (v := x) (ty := .boolean) B.exec B.bytes (B.returns.trans d4) (by rcases d5 with rfl | rfl <;> decide) hq9 hS.2.2 d1 hl9
          · exact W.zret (v := x) (ty := .byte) B.exec B.bytes (B.returns.trans d4) (by subst d5; decide) hq9 hS.2.2 d1 hl9
          · exact W.zret (v := x) (ty := .char) B.exec B.bytes (B.returns.trans d4) (jchar_ok d5) hq9 hS.2.2 d1 hl9
        · subst d2
          exact W.aret (v := .ref (jad base ca x)) (rt := .object n) B.exec B.bytes (B.returns.trans d4) (Or.inl ⟨n, rfl⟩) (Or.inr ⟨_, rfl⟩) (fun t ht hW => ⟨⟨by rw [d3]; rfl, by rw [ht]; exact hsz2, by rw [ht]; exact hP⟩, hS.F ht⟩) hS.2.2 d1 B.notSynchronized
        · subst d2
          exact W.vret B.exec B.bytes (B.returns.trans d4) (fun t ht hW => ⟨⟨by rw [d3]; rfl, by rw [ht]; exact hsz2, by rw [ht]; exact hP⟩, hS.F ht⟩) hS.2.2 d1 B.notSynchronized
        · subst d2
          exact W.lret (v := x) B.exec B.bytes (B.returns.trans d4) (fun t ht hW => ⟨⟨by rw [d3]; rfl, by rw [ht]; exact hsz2, by rw [ht]; exact hP⟩, hS.F ht⟩) hS.2.2 d1 B.notSynchronized
    · cases he
