/-! String.checkIndex within its bounds -/
section JL
variable {cs : Nat → Option (List Int32)} {jc : Nat → List Value → List jE → Option jR} {nL : Nat} {ret : Option FieldType} {tab : Nat → Option jI}
theorem jr1 {c c' : jC} {x : jI} (ht : tab c.1 = some x) (h : jexec cs jc nL ret x c.1 c.2.1 c.2.2.1 c.2.2.2 = some (.inl c')) (f : Nat) : jrun cs jc nL ret tab (f + 1) c = jrun cs jc nL ret tab f c' := by
  show (match jstep cs jc nL ret tab c with
    | none => none
    | some (.inl c') => jrun cs jc nL ret tab f c'
    | some (.inr r) => some r) = _
  unfold jstep
  rw [ht]
  simp only [h]
theorem jr0 {c : jC} {r : jR} {x : jI} (ht : tab c.1 = some x) (h : jexec cs jc nL ret x c.1 c.2.1 c.2.2.1 c.2.2.2 = some (.inr r)) (f : Nat) : jrun cs jc nL ret tab (f + 1) c = some r := by
  show (match jstep cs jc nL ret tab c with
    | none => none
    | some (.inl c') => jrun cs jc nL ret tab f c'
    | some (.inr r) => some r) = _
  unfold jstep
  rw [ht]
  simp only [h]
end JL
theorem ck2_run {xs : List Int32} {j n : Int32} {v : Value} (h1 : 0 ≤ j) (h2 : j < n) (d : Nat) (hv : v = .null ∨ v = .ref (jK0 + 50)) (h : List jE) : jcall jmt (jcs xs) 20 (d + 1) 275 [.int j, .int n, v] h = some (some (.int j), h) := by
  have e1 : decide (j < 0) = false := decide_eq_false (fun z => by
    have a := Int32.le_iff_toInt_le.mp h1
    have b := Int32.lt_iff_toInt_lt.mp z
    omega)
  have e2 : decide (j < n) = true := decide_eq_true h2
  unfold jcall
  rw [jmt_J3_checkIndex_8e157]
  simp only []
  rw [if_pos (by rcases hv with rfl | rfl <;> exact ⟨rfl, Nat.le_of_ble_eq_true rfl⟩)]
  show jrun (jcs xs) (jcall jmt (jcs xs) 20 d) 3 (some .int) jt_J3_checkIndex_8e157 (13 + 1 + 1 + 1 + 1 + 1 + 1 + 1) (0, [(0, .int j), (1, .int n), (2, v)], [], h) = _
  generalize hL : ([(0, .int j), (1, .int n), (2, v)] : List (Nat × Value)) = L
  have l0 : jget L 0 = some (.int j) := by subst hL; rfl
  have l1 : jget L 1 = some (.int n) := by subst hL; rfl
  refine (jr1 (c' := (1, L, [.int j], h)) rfl (by show jloadI L 0 1 [] h = _; unfold jloadI; rw [l0]; rfl) _).trans ?_
  refine (jr1 (c' := (4, L, [], h)) rfl (by show (bif decide (j < 0) then _ else _) = _; rw [e1]; rfl) _).trans ?_
  refine (jr1 (c' := (5, L, [.int j], h)) rfl (by show jloadI L 0 5 [] h = _; unfold jloadI; rw [l0]; rfl) _).trans ?_
  refine (jr1 (c' := (6, L, [.int n, .int j], h)) rfl (by show jloadI L 1 6 [.int j] h = _; unfold jloadI; rw [l1]; rfl) _).trans ?_
  refine (jr1 (c' := (16, L, [], h)) rfl (by show (bif decide (j < n) then _ else _) = _; rw [e2]; rfl) _).trans ?_
  refine (jr1 (c' := (17, L, [.int j], h)) rfl (by show jloadI L 0 17 [] h = _; unfold jloadI; rw [l0]; rfl) _).trans ?_
  exact jr0 rfl rfl _
theorem ck1_run {xs : List Int32} {j n : Int32} {v : Value} (h1 : 0 ≤ j) (h2 : j < n) (d : Nat) (hv : v = .null ∨ v = .ref (jK0 + 50)) (L : List (Nat × Value)) (h : List jE) : jrun (jcs xs) (jcall jmt (jcs xs) 20 (d + 1)) 2 none jt_J0_checkIndex_df160 3 (5, L, [v, .int n, .int j], h) = some (none, h) := by
  have e := ck2_run (xs := xs) h1 h2 d hv h
  have c1 : jexec (jcs xs) (jcall jmt (jcs xs) 20 (d + 1)) 2 none (.invokestatic 1059, 3, 275, 3, 0, 0) 5 L [v, .int n, .int j] h = some (.inl (8, L, [.int j], h)) := by
    show (if 3 ≤ ([v, .int n, .int j] : List Value).length ∧ (([] : List Value).map fun v => v.category).sum ≤ 8 then (match jcall jmt (jcs xs) 20 (d + 1) 275 [.int j, .int n, v] h with
      | some (some v, h') => jgo 8 L (v :: []) h'
      | some (none, h') => jgo 8 L [] h'
      | none => none) else none) = _
    rw [if_pos ⟨Nat.le_refl 3, Nat.zero_le _⟩, e]
    rfl
  refine (jr1 (c := (5, L, [v, .int n, .int j], h)) (c' := (8, L, [.int j], h)) rfl c1 2).trans ?_
  refine (jr1 (c' := (9, L, [], h)) rfl rfl 1).trans ?_
  exact jr0 rfl rfl 0
theorem jg_PF : Cond.fieldLink RJ0 1053 "jdk/internal/util/Preconditions" "SIOOBE_FORMATTER" "Ljava/util/function/BiFunction;" ∈ jG := jg_in (jch_3 (List.mem_of_getElem? (i := 177) rfl)) rfl
theorem j_native {l : Launch} {xs : List Int32} {base : Nat} {ca : Nat → Nat} {cT : Nat → ClassId} {D : va_G} {A : Nat → Prop} (hA : ∀ q, base ≤ q ↔ A q) (q : jM) (hq : jmt 264 = some q) (d : Nat) (vs : List Value) (h : List jE) (r : jR) (hz : h.length ≤ jK0) (ih : ∀ F : Nat, jKnown l jG xs base ca cT D A jmt d (jcall jmt (jcs xs) F d)) (hn : jnat d vs h = some r) (_hc : vs.length = q.2.2.2.2.2.1 ∧ (lg_sl vs).length ≤ q.2.2.2.1) : jMet l jG xs base ca cT D A (d + 1) q vs h r := by
  have hq2 : q = jq_J0_checkIndex_df160 := by
    rw [jmt_J0_checkIndex_df160] at hq
    exact (Option.some.inj hq).symm
  subst hq2
  unfold jnat at hn
  split at hn
  · rename_i d j n
    split at hn
    · rename_i hjn
      cases hn
      refine va_MetF (cc := cJ0_checkIndex_df160) (maxL := 2) (ret := none) (by decide +kernel) rfl ?_
      intro p e s m args below meth c s₁ B hml hv
      obtain ⟨rfl, hsz, hP, hK⟩ := hv
      have hts := atoms_spec (ws := Cond.code yJ0_checkIndex_df160 cJ0_checkIndex_df160 2 none :: jG) B.pre
      have hown : s.vm.findClass yJ0_checkIndex_df160.cls = some m.cls := findClass_of_methodNamed B.named
      have hl := lv_entry ([Value.int j, Value.int n]) (n := 2) (Nat.le_of_ble_eq_true rfl)
      have e9 : ([Value.int j, Value.int n].map (jv (jad base ca))) = [Value.int j, Value.int n] := rfl
      rw [e9]
      rw [lg_entry_eq]
      generalize (lg_sl ([Value.int j, Value.int n]) ++ List.replicate (2 - (lg_sl ([Value.int j, Value.int n])).length) Slot.unset).toArray = ls at hl ⊢
      have hl : lv_has ls 2 [(0, .int j), (1, .int n)] := hl
      obtain ⟨v, hv, hZ⟩ : ∃ v : Value, (v = .null ∨ v = .ref (jK0 + 50)) ∧ va_Z "jdk/internal/util/Preconditions" "SIOOBE_FORMATTER" "Ljava/util/function/BiFunction;" (jv (jad base ca) v) A s s.heap := by
        rcases hK.2.2.2.2.2.2.2.2.2.2 with z | z
        · exact ⟨.null, Or.inl rfl, z⟩
        · refine ⟨.ref (jK0 + 50), Or.inr rfl, ?_⟩
          show va_Z _ _ _ (.ref (jad base ca (jK0 + 50))) A s s.heap
          rw [jad_k]
          exact z
      have key := j_run (p := p) (l := l) (e := e) (R := (headSpec (Cond.code yJ0_checkIndex_df160 cJ0_checkIndex_df160 2 none :: jG) (jrm (d + 1 + 1) h (none, h))).room) (s := s) (m := m) (args := ([Value.int j, Value.int n].map (jv (jad base ca))).toArray) (below := below) (meth := meth) (c := c) (Q := MQ below (jQ base ca cT D A (none, h)) ([Value.int j, Value.int n].map (jv (jad base ca))).toArray s (h.length - h.length) (jsl h - jsl h) A) (base := base) (ca := ca) (cT := cT) (D := D) (A := A) (nL := 2) (n0 := h.length) (s0 := jsl h) (cc := cJ0_checkIndex_df160) (G := jG) (Ts := Cond.code yJ0_checkIndex_df160 cJ0_checkIndex_df160 2 none :: jG) (own := RJ0) (xs := xs) B.exec B.bytes hml hts (fun w hw => List.mem_cons_of_mem _ hw) jG_good hown hK (fun q hq => (hA q).mp hq) hsz (ini := yJ0_checkIndex_df160.name = "<init>") (fun z => absurd z (by decide)) (ih 20) (jm_call (d + 1)) (Nat.le_refl _) (by show 60 * (d + 1) + 60 ≤ 60 * (d + 1 + 1); omega) (ret := none) jz_J0_checkIndex_df160 (r := (none, h)) (by show h.length ≤ h.length - h.length + h.length; omega) (by show jsl h ≤ jsl h - jsl h + jsl h; omega) ?_ 3 (5, [(0, .int j), (1, .int n)], [v, .int n, .int j], h) hz (ck1_run hjn.1 hjn.2 d hv _ h)
      · refine lv_iload_n (x := j) B.exec B.bytes (by decide +kernel : decode cJ0_checkIndex_df160 0 = .ok (.iload_n 0, 1)) rfl (lv_at hl 0 rfl) ?_
        refine lv_iload_n (x := n) B.exec B.bytes (by decide +kernel : decode cJ0_checkIndex_df160 1 = .ok (.iload_n 1, 1)) rfl (lv_at hl 1 rfl) ?_
        refine va_gets B.exec B.bytes hZ va_S.rf hown (hts _ (List.mem_cons_of_mem _ jg_PF)) (fun _ h9 => h9) (by decide +kernel : decode cJ0_checkIndex_df160 2 = .ok (.getstatic 1053, 3)) ?_
        exact key hz s.heap [] ls 0 0 (Nat.zero_add _) (Nat.zero_add _) hl hP va_S.rf
      · intro pc L st hr hz2 H locs ls cells slots h1 h2 hl hP hS
        have h1 : cells + h.length = h.length := h1
        have h2 : slots + jsl h = jsl h := h2
        refine j_sized fun hz9 => ?_
        have hsz2 := j_size hsz (cells := cells) h1 hP hS hz9
        obtain rfl : cells = 0 := by omega
        obtain rfl : slots = 0 := by omega
        rcases hr with ⟨x, d1, d2, d3, d4⟩ | ⟨x, n, d1, d2, d3, d4⟩ | ⟨d1, d2, d3, d4⟩ | ⟨x, d1, d2, d3, d4⟩
        · cases d3
        · cases d3
        · subst d2
          rw [Nat.sub_self, Nat.sub_self]
          exact W.vret B.exec B.bytes (B.returns.trans d4) (fun t ht hW => ⟨⟨by rw [d3]; rfl, by rw [ht]; exact hsz2, by rw [ht]; exact hP⟩, hS.F ht⟩) hS.2.2 d1 B.notSynchronized
        · cases d3
    · cases hn
  · cases hn
