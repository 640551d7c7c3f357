section
/-! THE CLAIM OUT OF ONE WALK OF THE LAW'S BODY. Your part is whole_start (and what it stands on); all else here is the same for every law, but numbers. -/
noncomputable def R_law : String := "FoamHeadLaw"
noncomputable def lw_P (b : Addr) (xs : List Int32) (args : Array Value) (s : State) : Prop := args = #[.ref b] ∧ s.IntsAt b xs ∧ xs.length ≤ 3072 ∧ (Jvm.Cond.and given_1 narrow_1).before args s = true
noncomputable def lw_Q (_ : Array Value) (s : State) (o : Outcome) (t : State) : Prop := o = .returned (some (.int 1)) ∧ Framed s o t [] 600000 7302250
noncomputable def lw_Z (below : List Frame) (a : Array Value) (s : State) : State → Prop := fun t => ∃ o, t.status = .running ∧ Ended t below o ∧ lw_Q a s o t
/-- the law's own end, with 1 on the stack, nothing written that was there before, its room as the claim has it -/
theorem lw_ret {p : Program} {l : Launch} {e : Env} {s : State} {m : MethodId} {below : List Frame} {meth : Method} {c : Code} {b : Nat} (hx : p.tables.exec = Jvm.exec) (hb : c.code = code) (hr : meth.sig.returnType = ret) (hlocks : meth.locks = false) {pc : Nat} {H : Heap} {ls : Array Slot} (hdg : decode code pc = .ok (.ireturn, 1)) : W p l e room_1 s m #[Value.ref b] below meth c H [] 600000 7302250 (lw_Z below #[Value.ref b] s) (F0 m pc ls [.int 1]) := by
  intro T hT X
  obtain ⟨fs, hret, hrun, hended, hW, hframe⟩ := X.leave (v := some (.int 1)) (hlocks := hlocks) (fun h => by rw [hr] at h; cases h)
  have hmeth' : T.vm.method? m = some meth := X.method'
  refine ⟨T.setFrames fs, ?_, .returned (some (.int 1)), hrun, hended, rfl, ⟨_, rfl⟩, hW, hframe⟩
  jvm_step X.here [X.here.top, hx, hb, hdg, hmeth', hr, ret, narrow_b1]
  (try refine ⟨rfl, ?_⟩); (try refine ⟨rfl, ?_⟩)
  first | (intro acts; rw [hret _ acts rfl rfl rfl]) | rw [hret _ _ rfl rfl rfl]
  exact Steps.refl _
/-- what holds at the law's entry: the machine, the code, the tables' words (any of lw_tbl by 'hts w (by decide +kernel)'), the script of L ints xs at the cell b, what the Statement gives of the start (any of its parts by flat_of_before) -/
noncomputable def lw_At (p : Program) (s : State) (m : MethodId) (meth : Method) (c : Code) (b L : Nat) (xs : Nat → Int32) : Prop :=
  p.tables.exec = Jvm.exec ∧ c.code = code ∧ meth.sig.returnType = ret ∧ c.maxLocals = 4 ∧ s.vm.findClass R_law = some m.cls ∧ (∀ w ∈ lw_tbl, w.before #[Value.ref b] s = true) ∧ va_X b L xs s s.heap ∧ b < s.heap.size ∧ meth.locks = false ∧ (Jvm.Cond.and given_1 narrow_1).before #[Value.ref b] s = true
end
section
theorem jn_CS : Cond.laysStatic "java/lang/String" "COMPACT_STRINGS" "Z" ∈ lw_tbl := (jch_3 (List.mem_of_getElem? (i := 139) rfl))
theorem jn_CSi : Cond.initialized "java/lang/String" ∈ lw_tbl := (jch_1 (List.mem_of_getElem? (i := 15) rfl))
theorem jn_PF : Cond.laysStatic "jdk/internal/util/Preconditions" "SIOOBE_FORMATTER" "Ljava/util/function/BiFunction;" ∈ lw_tbl := (jch_3 (List.mem_of_getElem? (i := 178) rfl))
theorem jn_PFi : Cond.initialized "jdk/internal/util/Preconditions" ∈ lw_tbl := (jch_1 (List.mem_of_getElem? (i := 18) rfl))
theorem jn_PFl : Cond.fieldLink RJ0 1053 "jdk/internal/util/Preconditions" "SIOOBE_FORMATTER" "Ljava/util/function/BiFunction;" ∈ lw_tbl := (jch_3 (List.mem_of_getElem? (i := 177) rfl))
theorem jn_AO2 : Cond.arrayOver (.object "FoamHead$Text") ∈ lw_tbl := (jch_1 (List.mem_of_getElem? (i := 95) rfl))
theorem jn_AO3 : Cond.arrayOver (.object "java/lang/String") ∈ lw_tbl := (jch_5 (List.mem_of_getElem? (i := 66) rfl))
theorem jn_AO1 : Cond.arrayOver (.array .int) ∈ lw_tbl := (jch_1 (List.mem_of_getElem? (i := 41) rfl))
theorem jn_I : Cond.arrayClass .int ∈ lw_tbl := (jch_1 (List.mem_of_getElem? (i := 93) rfl))
theorem jn_N0 : Cond.methodLinkNest "FoamHead" 9 ⟨"FoamHead$World", "<init>", "()V"⟩ "FoamHead" ∈ lw_tbl := (jch_1 (List.mem_of_getElem? (i := 30) rfl))
theorem jn_N1 : Cond.methodLinkNest "FoamHead$World" 11 ⟨"FoamHead$Foam", "<init>", "()V"⟩ "FoamHead" ∈ lw_tbl := (jch_1 (List.mem_of_getElem? (i := 36) rfl))
theorem jn_N2 : Cond.methodLinkNest "FoamHead$World" 20 ⟨"FoamHead$Text", "<init>", "()V"⟩ "FoamHead" ∈ lw_tbl := (jch_1 (List.mem_of_getElem? (i := 97) rfl))
theorem jn_N3 : Cond.methodLinkNest "FoamHead" 24 ⟨"FoamHead$Reader", "<init>", "()V"⟩ "FoamHead" ∈ lw_tbl := (jch_1 (List.mem_of_getElem? (i := 169) rfl))
theorem jn_N4 : Cond.methodLinkNest "FoamHead" 31 ⟨"FoamHead$Search", "<init>", "()V"⟩ "FoamHead" ∈ lw_tbl := (jch_1 (List.mem_of_getElem? (i := 202) rfl))
theorem jn_N5 : Cond.methodLinkNest "FoamHead" 38 ⟨"FoamHead$Voices", "<init>", "()V"⟩ "FoamHead" ∈ lw_tbl := (jch_1 (List.mem_of_getElem? (i := 222) rfl))
theorem jn_N6 : Cond.methodLinkNest "FoamHead" 45 ⟨"FoamHead$Sheets", "<init>", "()V"⟩ "FoamHead" ∈ lw_tbl := (jch_2 (List.mem_of_getElem? (i := 16) rfl))
theorem jn_S0 : Cond.stringRef "FoamHead$Reader" 18 "" ∈ lw_tbl := (jch_1 (List.mem_of_getElem? (i := 173) rfl))
theorem jn_S1 : Cond.stringRef "FoamHead$Reader" 24 "stghn" ∈ lw_tbl := (jch_3 (List.mem_of_getElem? (i := 91) rfl))
theorem jn_S2 : Cond.stringRef "FoamHead$Reader" 26 "wvstn" ∈ lw_tbl := (jch_3 (List.mem_of_getElem? (i := 92) rfl))
theorem jn_S3 : Cond.stringRef "FoamHead$Reader" 28 "sgwrk" ∈ lw_tbl := (jch_3 (List.mem_of_getElem? (i := 93) rfl))
theorem jn_S4 : Cond.stringRef "FoamHeadModel" 27 "stghn" ∈ lw_tbl := (jch_5 (List.mem_of_getElem? (i := 67) rfl))
theorem jn_S5 : Cond.stringRef "FoamHeadModel" 29 "wvstn" ∈ lw_tbl := (jch_5 (List.mem_of_getElem? (i := 68) rfl))
theorem jn_S6 : Cond.stringRef "FoamHeadModel" 31 "sgwrk" ∈ lw_tbl := (jch_5 (List.mem_of_getElem? (i := 69) rfl))
theorem jn_L0 : Cond.laysStatic "FoamHead$Foam" "ROW_STEP" "[I" ∈ lw_tbl := (jch_2 (List.mem_of_getElem? (i := 95) rfl))
theorem jn_i0 : Cond.initialized "FoamHead$Foam" ∈ lw_tbl := (jch_1 (List.mem_of_getElem? (i := 3) rfl))
theorem jn_L1 : Cond.laysStatic "FoamHead$Foam" "ODD_STEP" "[I" ∈ lw_tbl := (jch_2 (List.mem_of_getElem? (i := 91) rfl))
theorem jn_i1 : Cond.initialized "FoamHead$Foam" ∈ lw_tbl := (jch_1 (List.mem_of_getElem? (i := 3) rfl))
theorem jn_L2 : Cond.laysStatic "FoamHead$Foam" "EVEN_STEP" "[I" ∈ lw_tbl := (jch_2 (List.mem_of_getElem? (i := 93) rfl))
theorem jn_i2 : Cond.initialized "FoamHead$Foam" ∈ lw_tbl := (jch_1 (List.mem_of_getElem? (i := 3) rfl))
theorem jn_L3 : Cond.laysStatic "FoamHead$Kinds" "ABOVE" "[I" ∈ lw_tbl := (jch_2 (List.mem_of_getElem? (i := 180) rfl))
theorem jn_i3 : Cond.initialized "FoamHead$Kinds" ∈ lw_tbl := (jch_1 (List.mem_of_getElem? (i := 13) rfl))
theorem jn_L4 : Cond.laysStatic "FoamHead$Voices" "BODIES" "[I" ∈ lw_tbl := (jch_4 (List.mem_of_getElem? (i := 217) rfl))
theorem jn_i4 : Cond.initialized "FoamHead$Voices" ∈ lw_tbl := (jch_1 (List.mem_of_getElem? (i := 7) rfl))
theorem jn_C0 : Cond.instantiable RX0 11 ∈ lw_tbl := (jch_1 (List.mem_of_getElem? (i := 35) rfl))
theorem jn_C1 : Cond.instantiable RX2 7 ∈ lw_tbl := (jch_1 (List.mem_of_getElem? (i := 168) rfl))
theorem jn_C2 : Cond.instantiable RX3 4 ∈ lw_tbl := (jch_1 (List.mem_of_getElem? (i := 201) rfl))
theorem jn_C3 : Cond.instantiable RX4 3 ∈ lw_tbl := (jch_2 (List.mem_of_getElem? (i := 15) rfl))
theorem jn_C4 : Cond.instantiable RX5 3 ∈ lw_tbl := (jch_1 (List.mem_of_getElem? (i := 96) rfl))
theorem jn_C5 : Cond.instantiable RX6 8 ∈ lw_tbl := (jch_1 (List.mem_of_getElem? (i := 221) rfl))
theorem jn_C6 : Cond.instantiable RX7 14 ∈ lw_tbl := (jch_1 (List.mem_of_getElem? (i := 29) rfl))
theorem jn_C7 : Cond.instantiable RX8 9 ∈ lw_tbl := (jch_1 (List.mem_of_getElem? (i := 21) rfl))
theorem jn_C8 : Cond.instantiable RX9 26 ∈ lw_tbl := (jch_5 (List.mem_of_getElem? (i := 60) rfl))
/-! the law from its entry, out of a run of the interpreter -/
noncomputable def jlaw (F : Nat) (xs : List Int32) : Option jR := jrun (jcs xs) (jcall jmt (jcs xs) F 300) 4 (some .boolean) jt_L_law F (0, [(0, .ref (jK0 + 20))], [], [])
set_option maxHeartbeats 4000000 in
set_option maxRecDepth 100000 in
theorem j_start {p : Program} {s : State} {m : MethodId} {meth : Method} {c : Code} {b L : Nat} {xs : Nat → Int32} (C0 : lw_At p s m meth c b L xs) : ∃ (ca : Nat → Nat) (cT : Nat → ClassId) (D : va_G), jK ((List.range L).map xs) ca cT D (fun q => s.heap.size ≤ q) s s.heap ∧ ca 20 = b := by
  obtain ⟨hx, hb, hr, hml, hown, hts, hX, hbl, hlocks, hgv⟩ := C0
  have hfl := flat_of_before _ hgv
  have hA0 : ∀ a : Nat, a < s.heap.size → ¬ (fun q : Nat => s.heap.size ≤ q) a := fun a h => Nat.not_le.mpr h
  obtain ⟨cc0, iS0, hKn0⟩ := u_known (C := RX0) (T := TX0) (N := 11) (n := 11) hts (fun w hw => jG_in w (ju_0 w hw)) (hts _ jn_C0)
  obtain ⟨cc1, iS1, hKn1⟩ := u_known (C := RX2) (T := TX2) (N := 7) (n := 7) hts (fun w hw => jG_in w (ju_1 w hw)) (hts _ jn_C1)
  obtain ⟨cc2, iS2, hKn2⟩ := u_known (C := RX3) (T := TX3) (N := 4) (n := 4) hts (fun w hw => jG_in w (ju_2 w hw)) (hts _ jn_C2)
  obtain ⟨cc3, iS3, hKn3⟩ := u_known (C := RX4) (T := TX4) (N := 3) (n := 3) hts (fun w hw => jG_in w (ju_3 w hw)) (hts _ jn_C3)
  obtain ⟨cc4, iS4, hKn4⟩ := u_known (C := RX5) (T := TX5) (N := 3) (n := 3) hts (fun w hw => jG_in w (ju_4 w hw)) (hts _ jn_C4)
  obtain ⟨cc5, iS5, hKn5⟩ := u_known (C := RX6) (T := TX6) (N := 8) (n := 8) hts (fun w hw => jG_in w (ju_5 w hw)) (hts _ jn_C5)
  obtain ⟨cc6, iS6, hKn6⟩ := u_known (C := RX7) (T := TX7) (N := 14) (n := 14) hts (fun w hw => jG_in w (ju_6 w hw)) (hts _ jn_C6)
  obtain ⟨cc7, iS7, hKn7⟩ := u_known (C := RX8) (T := TX8) (N := 9) (n := 9) hts (fun w hw => jG_in w (ju_7 w hw)) (hts _ jn_C7)
  obtain ⟨cc8, iS8, hKn8⟩ := u_known (C := RX9) (T := TX9) (N := 26) (n := 26) hts (fun w hw => jG_in w (ju_8 w hw)) (hts _ jn_C8)
  obtain ⟨dC, dI, hKc⟩ : ∃ (dC : Nat → ClassId) (dI : Nat → Nat → Nat), ∀ (k : Nat) (q : vw_C), vwCl[k]? = some q → u_Kn s q.1 q.2.1 q.2.2 (dC k) (dI k) := by
    refine ⟨fun k => if k = 0 then cc0 else if k = 1 then cc1 else if k = 2 then cc2 else if k = 3 then cc3 else if k = 4 then cc4 else if k = 5 then cc5 else if k = 6 then cc6 else if k = 7 then cc7 else cc8, fun k => if k = 0 then iS0 else if k = 1 then iS1 else if k = 2 then iS2 else if k = 3 then iS3 else if k = 4 then iS4 else if k = 5 then iS5 else if k = 6 then iS6 else if k = 7 then iS7 else iS8, ?_⟩
    intro k q hq
    match k, hq with
    | 0, hq => cases hq; exact hKn0
    | 1, hq => cases hq; exact hKn1
    | 2, hq => cases hq; exact hKn2
    | 3, hq => cases hq; exact hKn3
    | 4, hq => cases hq; exact hKn4
    | 5, hq => cases hq; exact hKn5
    | 6, hq => cases hq; exact hKn6
    | 7, hq => cases hq; exact hKn7
    | 8, hq => cases hq; exact hKn8
    | k + 9, hq => simp [vwCl] at hq
  obtain ⟨t0, te0, tT0⟩ := va_Tof (tm := .static "FoamHead$Foam" "ROW_STEP" "[I") (ty := .int) (N := 6) (f := fun j => .int (([0, 1, 1, 0, -1, -1] : List Int32).getD j 0)) (by decide) (hfl _ (by decide +kernel)) (va_eqt (z := Int32.ofNat 6) (hfl _ (by decide +kernel))) (fun j hj => va_eqt (z := ([0, 1, 1, 0, -1, -1] : List Int32).getD j 0) (hfl _ ((by decide +kernel : ∀ j, j < 6 → Cond.eq (.elem (.static "FoamHead$Foam" "ROW_STEP" "[I") (.int (Int32.ofNat j))) (.int (([0, 1, 1, 0, -1, -1] : List Int32).getD j 0)) ∈ flatC (Jvm.Cond.and given_1 narrow_1)) j hj))) hA0
  have tZ0 := va_Zref (hts _ jn_L0) (hts _ jn_i0) te0 hA0
  obtain ⟨t1, te1, tT1⟩ := va_Tof (tm := .static "FoamHead$Foam" "ODD_STEP" "[I") (ty := .int) (N := 6) (f := fun j => .int (([1, 1, 0, -1, 0, 1] : List Int32).getD j 0)) (by decide) (hfl _ (by decide +kernel)) (va_eqt (z := Int32.ofNat 6) (hfl _ (by decide +kernel))) (fun j hj => va_eqt (z := ([1, 1, 0, -1, 0, 1] : List Int32).getD j 0) (hfl _ ((by decide +kernel : ∀ j, j < 6 → Cond.eq (.elem (.static "FoamHead$Foam" "ODD_STEP" "[I") (.int (Int32.ofNat j))) (.int (([1, 1, 0, -1, 0, 1] : List Int32).getD j 0)) ∈ flatC (Jvm.Cond.and given_1 narrow_1)) j hj))) hA0
  have tZ1 := va_Zref (hts _ jn_L1) (hts _ jn_i1) te1 hA0
  obtain ⟨t2, te2, tT2⟩ := va_Tof (tm := .static "FoamHead$Foam" "EVEN_STEP" "[I") (ty := .int) (N := 6) (f := fun j => .int (([1, 0, -1, -1, -1, 0] : List Int32).getD j 0)) (by decide) (hfl _ (by decide +kernel)) (va_eqt (z := Int32.ofNat 6) (hfl _ (by decide +kernel))) (fun j hj => va_eqt (z := ([1, 0, -1, -1, -1, 0] : List Int32).getD j 0) (hfl _ ((by decide +kernel : ∀ j, j < 6 → Cond.eq (.elem (.static "FoamHead$Foam" "EVEN_STEP" "[I") (.int (Int32.ofNat j))) (.int (([1, 0, -1, -1, -1, 0] : List Int32).getD j 0)) ∈ flatC (Jvm.Cond.and given_1 narrow_1)) j hj))) hA0
  have tZ2 := va_Zref (hts _ jn_L2) (hts _ jn_i2) te2 hA0
  obtain ⟨t3, te3, tT3⟩ := va_Tof (tm := .static "FoamHead$Kinds" "ABOVE" "[I") (ty := .int) (N := 7) (f := fun j => .int (([-1, 0, 1, 0, 0, 3, 0] : List Int32).getD j 0)) (by decide) (hfl _ (by decide +kernel)) (va_eqt (z := Int32.ofNat 7) (hfl _ (by decide +kernel))) (fun j hj => va_eqt (z := ([-1, 0, 1, 0, 0, 3, 0] : List Int32).getD j 0) (hfl _ ((by decide +kernel : ∀ j, j < 7 → Cond.eq (.elem (.static "FoamHead$Kinds" "ABOVE" "[I") (.int (Int32.ofNat j))) (.int (([-1, 0, 1, 0, 0, 3, 0] : List Int32).getD j 0)) ∈ flatC (Jvm.Cond.and given_1 narrow_1)) j hj))) hA0
  have tZ3 := va_Zref (hts _ jn_L3) (hts _ jn_i3) te3 hA0
  obtain ⟨t4, te4, tT4⟩ := va_Tof (tm := .static "FoamHead$Voices" "BODIES" "[I") (ty := .int) (N := 28) (f := fun j => .int (([10, 11, 12, 13, 20, 0, 0, 21, 30, 0, 31, 0, 0, 41, 40, 0, 0, 0, 0, 50, 0, 60, 61, 0, 70, 0, 0, 0] : List Int32).getD j 0)) (by decide) (hfl _ (by decide +kernel)) (va_eqt (z := Int32.ofNat 28) (hfl _ (by decide +kernel))) (fun j hj => va_eqt (z := ([10, 11, 12, 13, 20, 0, 0, 21, 30, 0, 31, 0, 0, 41, 40, 0, 0, 0, 0, 50, 0, 60, 61, 0, 70, 0, 0, 0] : List Int32).getD j 0) (hfl _ ((by decide +kernel : ∀ j, j < 28 → Cond.eq (.elem (.static "FoamHead$Voices" "BODIES" "[I") (.int (Int32.ofNat j))) (.int (([10, 11, 12, 13, 20, 0, 0, 21, 30, 0, 31, 0, 0, 41, 40, 0, 0, 0, 0, 50, 0, 60, 61, 0, 70, 0, 0, 0] : List Int32).getD j 0)) ∈ flatC (Jvm.Cond.and given_1 narrow_1)) j hj))) hA0
  have tZ4 := va_Zref (hts _ jn_L4) (hts _ jn_i4) te4 hA0
  have sx0 : (Cond.exactly (.string "FoamHead$Reader" 18) "java/lang/String").before #[Value.ref b] s = true := hfl _ (by decide +kernel)
  obtain ⟨q0, -, -, -, se0, -, -, -, -, -, -⟩ := Cond.exactly_spec (args := #[Value.ref b]) (first := s) (o := none) (s := s) (idx := []) sx0
  have sO0 := va_Oof sx0 se0 hA0
  have sR0 := vk_R.of (hts _ jn_S0) se0
  have sx1 : (Cond.exactly (.string "FoamHead$Reader" 24) "java/lang/String").before #[Value.ref b] s = true := hfl _ (by decide +kernel)
  obtain ⟨q1, -, -, -, se1, -, -, -, -, -, -⟩ := Cond.exactly_spec (args := #[Value.ref b]) (first := s) (o := none) (s := s) (idx := []) sx1
  have sO1 := va_Oof sx1 se1 hA0
  have sR1 := vk_R.of (hts _ jn_S1) se1
  have sx2 : (Cond.exactly (.string "FoamHead$Reader" 26) "java/lang/String").before #[Value.ref b] s = true := hfl _ (by decide +kernel)
  obtain ⟨q2, -, -, -, se2, -, -, -, -, -, -⟩ := Cond.exactly_spec (args := #[Value.ref b]) (first := s) (o := none) (s := s) (idx := []) sx2
  have sO2 := va_Oof sx2 se2 hA0
  have sR2 := vk_R.of (hts _ jn_S2) se2
  have sx3 : (Cond.exactly (.string "FoamHead$Reader" 28) "java/lang/String").before #[Value.ref b] s = true := hfl _ (by decide +kernel)
  obtain ⟨q3, -, -, -, se3, -, -, -, -, -, -⟩ := Cond.exactly_spec (args := #[Value.ref b]) (first := s) (o := none) (s := s) (idx := []) sx3
  have sO3 := va_Oof sx3 se3 hA0
  have sR3 := vk_R.of (hts _ jn_S3) se3
  have sx4 : (Cond.exactly (.string "FoamHeadModel" 27) "java/lang/String").before #[Value.ref b] s = true := hfl _ (by decide +kernel)
  obtain ⟨q4, -, -, -, se4, -, -, -, -, -, -⟩ := Cond.exactly_spec (args := #[Value.ref b]) (first := s) (o := none) (s := s) (idx := []) sx4
  have sO4 := va_Oof sx4 se4 hA0
  have sR4 := vk_R.of (hts _ jn_S4) se4
  have sx5 : (Cond.exactly (.string "FoamHeadModel" 29) "java/lang/String").before #[Value.ref b] s = true := hfl _ (by decide +kernel)
  obtain ⟨q5, -, -, -, se5, -, -, -, -, -, -⟩ := Cond.exactly_spec (args := #[Value.ref b]) (first := s) (o := none) (s := s) (idx := []) sx5
  have sO5 := va_Oof sx5 se5 hA0
  have sR5 := vk_R.of (hts _ jn_S5) se5
  have sx6 : (Cond.exactly (.string "FoamHeadModel" 31) "java/lang/String").before #[Value.ref b] s = true := hfl _ (by decide +kernel)
  obtain ⟨q6, -, -, -, se6, -, -, -, -, -, -⟩ := Cond.exactly_spec (args := #[Value.ref b]) (first := s) (o := none) (s := s) (idx := []) sx6
  have sO6 := va_Oof sx6 se6 hA0
  have sR6 := vk_R.of (hts _ jn_S6) se6
  obtain ⟨cA0, kA0, comp0, f1, f2, f3⟩ := Cond.arrayClass_spec (hts _ jn_I)
  have sC0 := vk_OFof (o := "java/lang/String") (n := "coder") (d := "B") se0 (va_eqt (z := 0) (hfl _ (by decide +kernel))) hA0
  obtain ⟨v0, ve0, vT0⟩ := va_Tof (tm := (.field (.string "FoamHead$Reader" 18) "java/lang/String" "value" "[B")) (ty := .byte) (N := 0) (f := fun j => .int (([] : List Int32).getD j 0)) (by decide) (hfl _ (by decide +kernel)) (va_eqt (z := Int32.ofNat 0) (hfl _ (by decide +kernel))) (fun j hj => va_eqt (z := ([] : List Int32).getD j 0) (hfl _ ((by decide +kernel : ∀ j, j < 0 → Cond.eq (.elem (.field (.string "FoamHead$Reader" 18) "java/lang/String" "value" "[B") (.int (Int32.ofNat j))) (.int (([] : List Int32).getD j 0)) ∈ flatC (Jvm.Cond.and given_1 narrow_1)) j hj))) hA0
  have sV0 := vk_OFof se0 ve0 hA0
  have sC1 := vk_OFof (o := "java/lang/String") (n := "coder") (d := "B") se1 (va_eqt (z := 0) (hfl _ (by decide +kernel))) hA0
  obtain ⟨v1, ve1, vT1⟩ := va_Tof (tm := (.field (.string "FoamHead$Reader" 24) "java/lang/String" "value" "[B")) (ty := .byte) (N := 5) (f := fun j => .int (([115, 116, 103, 104, 110] : List Int32).getD j 0)) (by decide) (hfl _ (by decide +kernel)) (va_eqt (z := Int32.ofNat 5) (hfl _ (by decide +kernel))) (fun j hj => va_eqt (z := ([115, 116, 103, 104, 110] : List Int32).getD j 0) (hfl _ ((by decide +kernel : ∀ j, j < 5 → Cond.eq (.elem (.field (.string "FoamHead$Reader" 24) "java/lang/String" "value" "[B") (.int (Int32.ofNat j))) (.int (([115, 116, 103, 104, 110] : List Int32).getD j 0)) ∈ flatC (Jvm.Cond.and given_1 narrow_1)) j hj))) hA0
  have sV1 := vk_OFof se1 ve1 hA0
  have sC2 := vk_OFof (o := "java/lang/String") (n := "coder") (d := "B") se2 (va_eqt (z := 0) (hfl _ (by decide +kernel))) hA0
  obtain ⟨v2, ve2, vT2⟩ := va_Tof (tm := (.field (.string "FoamHead$Reader" 26) "java/lang/String" "value" "[B")) (ty := .byte) (N := 5) (f := fun j => .int (([119, 118, 115, 116, 110] : List Int32).getD j 0)) (by decide) (hfl _ (by decide +kernel)) (va_eqt (z := Int32.ofNat 5) (hfl _ (by decide +kernel))) (fun j hj => va_eqt (z := ([119, 118, 115, 116, 110] : List Int32).getD j 0) (hfl _ ((by decide +kernel : ∀ j, j < 5 → Cond.eq (.elem (.field (.string "FoamHead$Reader" 26) "java/lang/String" "value" "[B") (.int (Int32.ofNat j))) (.int (([119, 118, 115, 116, 110] : List Int32).getD j 0)) ∈ flatC (Jvm.Cond.and given_1 narrow_1)) j hj))) hA0
  have sV2 := vk_OFof se2 ve2 hA0
  have sC3 := vk_OFof (o := "java/lang/String") (n := "coder") (d := "B") se3 (va_eqt (z := 0) (hfl _ (by decide +kernel))) hA0
  obtain ⟨v3, ve3, vT3⟩ := va_Tof (tm := (.field (.string "FoamHead$Reader" 28) "java/lang/String" "value" "[B")) (ty := .byte) (N := 5) (f := fun j => .int (([115, 103, 119, 114, 107] : List Int32).getD j 0)) (by decide) (hfl _ (by decide +kernel)) (va_eqt (z := Int32.ofNat 5) (hfl _ (by decide +kernel))) (fun j hj => va_eqt (z := ([115, 103, 119, 114, 107] : List Int32).getD j 0) (hfl _ ((by decide +kernel : ∀ j, j < 5 → Cond.eq (.elem (.field (.string "FoamHead$Reader" 28) "java/lang/String" "value" "[B") (.int (Int32.ofNat j))) (.int (([115, 103, 119, 114, 107] : List Int32).getD j 0)) ∈ flatC (Jvm.Cond.and given_1 narrow_1)) j hj))) hA0
  have sV3 := vk_OFof se3 ve3 hA0
  have sC4 := vk_OFof (o := "java/lang/String") (n := "coder") (d := "B") se4 (va_eqt (z := 0) (hfl _ (by decide +kernel))) hA0
  obtain ⟨v4, ve4, vT4⟩ := va_Tof (tm := (.field (.string "FoamHeadModel" 27) "java/lang/String" "value" "[B")) (ty := .byte) (N := 5) (f := fun j => .int (([115, 116, 103, 104, 110] : List Int32).getD j 0)) (by decide) (hfl _ (by decide +kernel)) (va_eqt (z := Int32.ofNat 5) (hfl _ (by decide +kernel))) (fun j hj => va_eqt (z := ([115, 116, 103, 104, 110] : List Int32).getD j 0) (hfl _ ((by decide +kernel : ∀ j, j < 5 → Cond.eq (.elem (.field (.string "FoamHeadModel" 27) "java/lang/String" "value" "[B") (.int (Int32.ofNat j))) (.int (([115, 116, 103, 104, 110] : List Int32).getD j 0)) ∈ flatC (Jvm.Cond.and given_1 narrow_1)) j hj))) hA0
  have sV4 := vk_OFof se4 ve4 hA0
  have sC5 := vk_OFof (o := "java/lang/String") (n := "coder") (d := "B") se5 (va_eqt (z := 0) (hfl _ (by decide +kernel))) hA0
  obtain ⟨v5, ve5, vT5⟩ := va_Tof (tm := (.field (.string "FoamHeadModel" 29) "java/lang/String" "value" "[B")) (ty := .byte) (N := 5) (f := fun j => .int (([119, 118, 115, 116, 110] : List Int32).getD j 0)) (by decide) (hfl _ (by decide +kernel)) (va_eqt (z := Int32.ofNat 5) (hfl _ (by decide +kernel))) (fun j hj => va_eqt (z := ([119, 118, 115, 116, 110] : List Int32).getD j 0) (hfl _ ((by decide +kernel : ∀ j, j < 5 → Cond.eq (.elem (.field (.string "FoamHeadModel" 29) "java/lang/String" "value" "[B") (.int (Int32.ofNat j))) (.int (([119, 118, 115, 116, 110] : List Int32).getD j 0)) ∈ flatC (Jvm.Cond.and given_1 narrow_1)) j hj))) hA0
  have sV5 := vk_OFof se5 ve5 hA0
  have sC6 := vk_OFof (o := "java/lang/String") (n := "coder") (d := "B") se6 (va_eqt (z := 0) (hfl _ (by decide +kernel))) hA0
  obtain ⟨v6, ve6, vT6⟩ := va_Tof (tm := (.field (.string "FoamHeadModel" 31) "java/lang/String" "value" "[B")) (ty := .byte) (N := 5) (f := fun j => .int (([115, 103, 119, 114, 107] : List Int32).getD j 0)) (by decide) (hfl _ (by decide +kernel)) (va_eqt (z := Int32.ofNat 5) (hfl _ (by decide +kernel))) (fun j hj => va_eqt (z := ([115, 103, 119, 114, 107] : List Int32).getD j 0) (hfl _ ((by decide +kernel : ∀ j, j < 5 → Cond.eq (.elem (.field (.string "FoamHeadModel" 31) "java/lang/String" "value" "[B") (.int (Int32.ofNat j))) (.int (([115, 103, 119, 114, 107] : List Int32).getD j 0)) ∈ flatC (Jvm.Cond.and given_1 narrow_1)) j hj))) hA0
  have sV6 := vk_OFof se6 ve6 hA0
  have sZ9 := va_Zof (C := "java/lang/String") (n := "COMPACT_STRINGS") (d := "Z") (hts _ jn_CS) (hts _ jn_CSi) (va_eqt (z := 1) (hfl _ (by decide +kernel))) hA0
  obtain ⟨p9, sP9⟩ : ∃ p9 : Nat, va_Z "jdk/internal/util/Preconditions" "SIOOBE_FORMATTER" "Ljava/util/function/BiFunction;" .null (fun q : Nat => s.heap.size ≤ q) s s.heap ∨ va_Z "jdk/internal/util/Preconditions" "SIOOBE_FORMATTER" "Ljava/util/function/BiFunction;" (.ref p9) (fun q : Nat => s.heap.size ≤ q) s s.heap := by
    rcases va_Zqof (hts _ jn_PF) (hts _ jn_PFi) (hfl _ (by decide +kernel)) hA0 with h9 | ⟨t9, h9⟩
    · exact ⟨0, Or.inl h9⟩
    · exact ⟨t9, Or.inr h9⟩
  obtain ⟨comp1, cA1, kA1, g1, -, g2, g3, g4⟩ := arrayOverA_spec (hts _ jn_AO1)
  obtain ⟨comp2, cA2, kA2, e1, -, e2, e3, e4⟩ := Cond.arrayOver_spec (hts _ jn_AO2)
  obtain ⟨comp3, cA3, kA3, d1, -, d2, d3, d4⟩ := Cond.arrayOver_spec (hts _ jn_AO3)
  refine ⟨fun k => match k with | 0 => t0 | 1 => t1 | 2 => t2 | 3 => t3 | 4 => t4 | 10 => q0 | 11 => q1 | 12 => q2 | 13 => q3 | 14 => q4 | 15 => q5 | 16 => q6 | 20 => b | 30 => v0 | 31 => v1 | 32 => v2 | 33 => v3 | 34 => v4 | 35 => v5 | 36 => v6 | 50 => p9 | _ => 0, fun k => if k = 0 then cA0 else if k = 1 then cA1 else if k = 2 then cA2 else cA3, (dC, dI), ⟨⟨hKc, ?_⟩, ?_, ?_, ?_, ?_, va_AO.of (hts _ jn_AO2), va_AO.of (hts _ jn_AO3), hts _ jn_AO1, ?_, sZ9, sP9⟩, rfl⟩
  · intro k q hq
    match k, hq with
    | 0, hq => cases hq; exact ⟨fun n z => ⟨(fun k h => by cases h), kA0, f2, comp0, f3⟩, f1⟩
    | 1, hq => cases hq; exact ⟨fun n z => ⟨(fun k h => by cases h), kA1, g2, comp1, g3⟩, g4⟩
    | 2, hq => cases hq; exact ⟨fun n z => ⟨(fun k h => by cases h), kA2, e2, comp2, e3⟩, kA2, comp2, e2, e3, e1, e4⟩
    | 3, hq => cases hq; exact ⟨fun n z => ⟨(fun k h => by cases h), kA3, d2, comp3, d3⟩, kA3, comp3, d2, d3, d1, d4⟩
    | k + 4, hq => simp [jtys] at hq
  · intro k lz hk
    by_cases h5 : k < 5
    · match k, h5, hk with
      | 0, _, hk => cases hk; exact tT0
      | 1, _, hk => cases hk; exact tT1
      | 2, _, hk => cases hk; exact tT2
      | 3, _, hk => cases hk; exact tT3
      | 4, _, hk => cases hk; exact tT4
    · by_cases h20 : k = 20
      · subst h20
        have hk : some ((List.range L).map xs) = some lz := hk
        cases hk
        obtain ⟨scr, x1, x2, x3, x4, x5⟩ := hX
        refine ⟨scr, x1, x2, x3, by rw [List.length_map, List.length_range, x4]; exact Nat.le_refl _, by rw [List.length_map, List.length_range, x4], fun j hj => ?_, Nat.not_le.mpr hbl⟩
        rw [List.length_map, List.length_range] at hj
        rw [x5 j hj]
        simp [List.getD, hj]
      · exfalso
        unfold jcs at hk
        have e1 : Nat.blt k 5 = false := by
          cases hb9 : Nat.blt k 5 with
          | false => rfl
          | true => exact absurd (Nat.le_of_ble_eq_true hb9) h5
        have e2 : (k == 20) = false := by
          cases hb9 : (k == 20) with
          | false => rfl
          | true => exact absurd (eq_of_beq hb9) h20
        rw [e1, e2] at hk
        cases hk
  · intro k q hq
    match k, hq with
    | 0, hq => cases hq; exact tZ0
    | 1, hq => cases hq; exact tZ1
    | 2, hq => cases hq; exact tZ2
    | 3, hq => cases hq; exact tZ3
    | 4, hq => cases hq; exact tZ4
    | k + 5, hq => simp [jst] at hq
  · intro k q hq
    match k, hq with
    | 0, hq => cases hq; exact ⟨sR0, sO0⟩
    | 1, hq => cases hq; exact ⟨sR1, sO1⟩
    | 2, hq => cases hq; exact ⟨sR2, sO2⟩
    | 3, hq => cases hq; exact ⟨sR3, sO3⟩
    | 4, hq => cases hq; exact ⟨sR4, sO4⟩
    | 5, hq => cases hq; exact ⟨sR5, sO5⟩
    | 6, hq => cases hq; exact ⟨sR6, sO6⟩
    | k + 7, hq => simp [jstr] at hq
  · intro k q hq
    match k, hq with
    | 0, hq => cases hq; exact va_Nw.of rfl (hts _ jn_N0)
    | 1, hq => cases hq; exact va_Nw.of rfl (hts _ jn_N1)
    | 2, hq => cases hq; exact va_Nw.of rfl (hts _ jn_N2)
    | 3, hq => cases hq; exact va_Nw.of rfl (hts _ jn_N3)
    | 4, hq => cases hq; exact va_Nw.of rfl (hts _ jn_N4)
    | 5, hq => cases hq; exact va_Nw.of rfl (hts _ jn_N5)
    | 6, hq => cases hq; exact va_Nw.of rfl (hts _ jn_N6)
    | k + 7, hq => simp [jnest] at hq
  · intro k lz hk hl
    match k, hk, hl with
    | 0, _, hl => cases hl; exact ⟨sC0, sV0, vT0⟩
    | 1, _, hl => cases hl; exact ⟨sC1, sV1, vT1⟩
    | 2, _, hl => cases hl; exact ⟨sC2, sV2, vT2⟩
    | 3, _, hl => cases hl; exact ⟨sC3, sV3, vT3⟩
    | 4, _, hl => cases hl; exact ⟨sC4, sV4, vT4⟩
    | 5, _, hl => cases hl; exact ⟨sC5, sV5, vT5⟩
    | 6, _, hl => cases hl; exact ⟨sC6, sV6, vT6⟩
end
section
set_option maxHeartbeats 4000000 in
theorem whole_of {p : Program} {e : Env} {s : State} {m : MethodId} {below : List Frame} {meth : Method} {c : Code} (l : Launch) {b L : Nat} {xs : Nat → Int32} (C0 : lw_At p s m meth c b L xs) {F : Nat} {r : jR} (hrun : jlaw F ((List.range L).map xs) = some r) (g1 : r.1 = some (.int 1)) (g2 : r.2.length ≤ 600000) (g3 : jsl r.2 ≤ 7302250) : W p l e room_1 s m #[Value.ref b] below meth c s.heap [] 0 0 (lw_Z below #[Value.ref b] s) (entryFrame m ([Value.ref b] : List Value).toArray 4) := by
  obtain ⟨ca, cT, D, hK, hb20⟩ := j_start C0
  obtain ⟨hx, hb, hr, hml, hown, hts, hX, hbl, hlocks, hgv⟩ := C0
  have hl := lv_entry ([.ref b]) (n := 4) (Nat.le_of_ble_eq_true rfl)
  rw [lg_entry_eq]
  generalize (lg_sl ([.ref b]) ++ List.replicate (4 - (lg_sl ([.ref b])).length) Slot.unset).toArray = ls at hl ⊢
  have hl : lv_has ls 4 [(0, .ref b)] := hl
  have hl2 : lv_has ls 4 (jL (jad s.heap.size ca) [(0, .ref (jK0 + 20))]) := by
    show lv_has ls 4 [(0, .ref (jad s.heap.size ca (jK0 + 20)))]
    rw [jad_k, hb20]
    exact hl
  have key := j_run (p := p) (l := l) (e := e) (R := room_1) (s := s) (m := m) (args := #[Value.ref b]) (below := below) (meth := meth) (c := c) (Q := lw_Z below #[Value.ref b] s) (base := s.heap.size) (ca := ca) (cT := cT) (D := D) (A := fun q => s.heap.size ≤ q) (nL := 4) (n0 := 0) (s0 := 0) (cc := cL_law) (G := jG) (Ts := lw_tbl) (own := RL) (xs := (List.range L).map xs) hx hb hml hts jG_in jG_good hown hK (fun q h => h) rfl (ini := yL_law.name = "<init>") (fun z => absurd z (by decide)) (mt := jmt) (d := 300) (call := jcall jmt (jcs ((List.range L).map xs)) F 300) (j_call jG_good (fun q => Iff.rfl) jtabs_ok (j_native (fun q => Iff.rfl)) 300 F) (jm_call 300) (Nat.le_of_ble_eq_true rfl) (Nat.le_of_ble_eq_true rfl) (ret := some .boolean) jz_L_law (r := r) g2 g3 ?_ F (0, [(0, .ref (jK0 + 20))], [], []) (Nat.zero_le _) hrun
  · exact key (Nat.zero_le _) s.heap [] ls 0 0 rfl rfl hl2 (fun k q h => by simp [jw] at h) va_S.rf
  · intro pc L9 st hr9 hz2 H locs ls cells slots h1 h2 hl hP hS
    have h1 : cells + 0 = r.2.length := h1
    have h2 : slots + 0 = jsl r.2 := h2
    rcases hr9 with ⟨x, d1, d2, d3, d4⟩ | ⟨x, n, d1, d2, d3, d4⟩ | ⟨d1, d2, d3, d4⟩ | ⟨x, d1, d2, d3, d4⟩
    · rw [g1] at d3
      cases d3
      subst d2
      refine va_forget (fun q hq => hS.2.2 q hq) ?_
      refine W.widen (k := 600000) (n := 7302250) (by omega) (by omega) ?_
      exact lw_ret hx hb hr hlocks d1
    · rw [g1] at d3; cases d3
    · rw [g1] at d3; cases d3
    · rw [g1] at d3; cases d3
end
section
/-! how the list of cells grows -/
noncomputable def jPq (h h' : List jE) : Prop := h.length ≤ h'.length ∧ jsl h ≤ jsl h' ∧ (h.length ≤ jK0 → h'.length ≤ jK0) ∧ (h'.length = h.length → jsl h' = jsl h)
noncomputable def jhq (o : jC ⊕ jR) : List jE := match o with
  | .inl c => c.2.2.2
  | .inr r => r.2
theorem jPq_rfl (h : List jE) : jPq h h := ⟨Nat.le_refl _, Nat.le_refl _, fun z => z, fun _ => rfl⟩
theorem jPq_tr {a b c : List jE} (h1 : jPq a b) (h2 : jPq b c) : jPq a c := ⟨Nat.le_trans h1.1 h2.1, Nat.le_trans h1.2.1 h2.2.1, fun z => h2.2.2.1 (h1.2.2.1 z), fun z => by
  have a1 := h1.1
  have a2 := h2.1
  rw [h2.2.2.2 (by omega), h1.2.2.2 (by omega)]⟩
theorem jPq_set {h : List jE} {i : Nat} {e e' : jE} (he : h[i]? = some e) (hs : jsz e' = jsz e) : jPq h (h.set i e') := ⟨by rw [List.length_set]; exact Nat.le_refl _, by rw [jsl_set he hs]; exact Nat.le_refl _, fun z => by rw [List.length_set]; exact z, fun _ => jsl_set he hs⟩
theorem jPq_app {h g : List jE} (hz : h.length + g.length ≤ jK0) : jPq h (h ++ g) := ⟨by rw [List.length_append]; omega, by rw [jsl_app]; omega, fun _ => by rw [List.length_append]; exact hz, fun z => by
  rw [List.length_append] at z
  have : g = [] := List.length_eq_zero_iff.mp (by omega)
  rw [this, List.append_nil]⟩
theorem jmq_go {t : Nat} {L : List (Nat × Value)} {st : List Value} {h : List jE} {o : jC ⊕ jR} (he : jgo t L st h = some o) : jPq h (jhq o) := by
  cases he
  exact jPq_rfl h
theorem jmq_iast {t : Nat} {L : List (Nat × Value)} {st : List Value} {h : List jE} {o : jC ⊕ jR} (he : jiast t L st h = some o) : jPq h (jhq o) := by
  unfold jiast at he
  split at he
  · split at he
    · rename_i a ha
      split at he
      · cases he
        exact jPq_set ha (by simp [jsz])
      · cases he
    · cases he
  · cases he
theorem jmq_aast {t : Nat} {L : List (Nat × Value)} {st : List Value} {h : List jE} {o : jC ⊕ jR} (he : jaast t L st h = some o) : jPq h (jhq o) := by
  unfold jaast at he
  split at he
  · split at he
    · rename_i a ha
      split at he
      · cases he
        exact jPq_set ha (by simp [jsz])
      · cases he
    · cases he
  · cases he
theorem jmq_putf {ci k ty t : Nat} {L : List (Nat × Value)} {st : List Value} {h : List jE} {o : jC ⊕ jR} (he : jputf ci k ty t L st h = some o) : jPq h (jhq o) := by
  unfold jputf at he
  split at he
  · split at he
    · rename_i a ha
      rw [Bool.cond_eq_ite] at he
      split at he
      · cases he
        exact jPq_set ha (by simp [jsz])
      · cases he
    · cases he
  · cases he
theorem jmq_copy {t : Nat} {L : List (Nat × Value)} {st : List Value} {h : List jE} {o : jC ⊕ jR} (he : jcopy t L st h = some o) : jPq h (jhq o) := by
  unfold jcopy at he
  split at he
  · split at he
    · rename_i f g hf hg
      split at he
      · cases he
        exact jPq_set hg (by simp [jsz, jcpy_len])
      · cases he
    · cases he
  · cases he
theorem jmq_new {ci t : Nat} {dfl : List Value} {L : List (Nat × Value)} {st : List Value} {h : List jE} {o : jC ⊕ jR} (he : jnew ci t dfl L st h = some o) : jPq h (jhq o) := by
  unfold jnew at he
  cases hk : Nat.blt h.length jK0 with
  | false => rw [hk] at he; cases he
  | true =>
    rw [hk] at he
    cases he
    exact jPq_app (Nat.le_of_ble_eq_true hk)
theorem jmq_newa {t : Nat} {L : List (Nat × Value)} {st : List Value} {h : List jE} {o : jC ⊕ jR} (he : jnewa t L st h = some o) : jPq h (jhq o) := by
  unfold jnewa at he
  split at he
  · split at he
    · rename_i hc
      cases he
      exact jPq_app hc.2.2
    · cases he
  · cases he
theorem jmq_newq {k t : Nat} {L : List (Nat × Value)} {st : List Value} {h : List jE} {o : jC ⊕ jR} (he : jnewq k t L st h = some o) : jPq h (jhq o) := by
  unfold jnewq at he
  split at he
  · split at he
    · rename_i hc
      cases he
      exact jPq_app hc.2.2
    · cases he
  · cases he
theorem jmq_newg {k t : Nat} {L : List (Nat × Value)} {st : List Value} {h : List jE} {o : jC ⊕ jR} (he : jnewg k t L st h = some o) : jPq h (jhq o) := by
  unfold jnewg at he
  split at he
  · split at he
    · rename_i hc
      cases he
      refine jPq_app ?_
      rw [List.length_cons, List.length_replicate]
      have := hc.2.2.2.2
      omega
    · cases he
  · cases he
theorem jmq_inv {call : Nat → List Value → List jE → Option jR} (hc : ∀ (a : Nat) (vs : List Value) (h : List jE) (r : jR), call a vs h = some r → jPq h r.2) {a n t : Nat} {L : List (Nat × Value)} {st : List Value} {h : List jE} {o : jC ⊕ jR} (he : jinv call a n t L st h = some o) : jPq h (jhq o) := by
  unfold jinv at he
  split at he
  · split at he
    · rename_i v h' hr
      cases he
      exact hc _ _ _ _ hr
    · rename_i h' hr
      cases he
      exact hc _ _ _ _ hr
    · cases he
  · cases he
theorem jmq_invV {call : Nat → List Value → List jE → Option jR} (hc : ∀ (a : Nat) (vs : List Value) (h : List jE) (r : jR), call a vs h = some r → jPq h r.2) {a n ci t : Nat} {L : List (Nat × Value)} {st : List Value} {h : List jE} {o : jC ⊕ jR} (he : jinvV call a n ci t L st h = some o) : jPq h (jhq o) := by
  unfold jinvV at he
  split at he
  · split at he
    · rw [Bool.cond_eq_ite] at he
      split at he
      · exact jmq_inv hc he
      · cases he
    · cases he
  · cases he
theorem jmq_invK {call : Nat → List Value → List jE → Option jR} (hc : ∀ (a : Nat) (vs : List Value) (h : List jE) (r : jR), call a vs h = some r → jPq h r.2) {a n t : Nat} {L : List (Nat × Value)} {st : List Value} {h : List jE} {o : jC ⊕ jR} (he : jinvK call a n t L st h = some o) : jPq h (jhp o) := by
  unfold jinvK at he
  split at he
  · rw [Bool.cond_eq_ite] at he
    split at he
    · exact jmq_inv hc he
    · cases he
  · cases he
theorem jmq_invI {call : Nat → List Value → List jE → Option jR} (hc : ∀ (a : Nat) (vs : List Value) (h : List jE) (r : jR), call a vs h = some r → jPq h r.2) {a n t : Nat} {L : List (Nat × Value)} {st : List Value} {h : List jE} {o : jC ⊕ jR} (he : jinvI call a n t L st h = some o) : jPq h (jhq o) := by
  unfold jinvI at he
  split at he
  · exact jmq_inv hc he
  · cases he
theorem jmq_exec {cs : Nat → Option (List Int32)} {call : Nat → List Value → List jE → Option jR} (hc : ∀ (a : Nat) (vs : List Value) (h : List jE) (r : jR), call a vs h = some r → jPq h r.2) {nL : Nat} {ret : Option FieldType} {x : jI} {pc : Nat} {L : List (Nat × Value)} {st : List Value} {h : List jE} {o : jC ⊕ jR} (he : jexec cs call nL ret x pc L st h = some o) : jPq h (jhq o) := by
  obtain ⟨ins, len, a, b, c, k⟩ := x
  unfold jexec at he
  simp only [jloadI, jloadL, jloadA, jstoreI, jstoreA, jstoreL, jop1, jop2, jop2L, jshL, jiald, jaald, jalen, jgetf, jgetk, jbald, jtsw, jlsw, jret, jretA, jretV, jretL, jif, jicmp, Bool.cond_eq_ite] at he
  split at he
  all_goals first | exact jmq_go he | exact jmq_iast he | exact jmq_aast he | exact jmq_putf he | exact jmq_new he | exact jmq_newa he | exact jmq_newq he | exact jmq_newg he | exact jmq_inv hc he | exact jmq_invV hc he | (cases he; done) | skip
  all_goals (repeat' split at he)
  all_goals first | exact jmq_go he | (cases he; first | exact jPq_rfl h | done) | exact jmq_inv hc he | exact jmq_invI hc he | exact jmq_invV hc he | exact jmq_invK hc he | exact jmq_copy he
theorem jmq_run {cs : Nat → Option (List Int32)} {call : Nat → List Value → List jE → Option jR} (hc : ∀ (a : Nat) (vs : List Value) (h : List jE) (r : jR), call a vs h = some r → jPq h r.2) {nL : Nat} {ret : Option FieldType} {tab : Nat → Option jI} : ∀ (f : Nat) (c : jC) (r : jR), jrun cs call nL ret tab f c = some r → jPq c.2.2.2 r.2
  | 0, _, _, h => by cases h
  | f + 1, c, r, h => by
    unfold jrun at h
    unfold jstep at h
    cases ht : tab c.1 with
    | none => rw [ht] at h; cases h
    | some x =>
      rw [ht] at h
      cases he : jexec cs call nL ret x c.1 c.2.1 c.2.2.1 c.2.2.2 with
      | none => simp only [he] at h; cases h
      | some o =>
        have h1 := jmq_exec hc he
        cases o with
        | inl c' =>
          simp only [he] at h
          exact jPq_tr h1 (jmq_run hc f c' r h)
        | inr r' =>
          simp only [he] at h
          cases h
          exact h1
theorem jmq_call {mt : Nat → Option jM} {cs : Nat → Option (List Int32)} {F : Nat} : ∀ (d a : Nat) (vs : List Value) (h : List jE) (r : jR), jcall mt cs F d a vs h = some r → jPq h r.2
  | 0, _, _, _, _, h => by cases h
  | d + 1, a, vs, h, r, he => by
    unfold jcall at he
    split at he
    · cases he
    · split at he
      · cases hb9 : (a == 264) with
        | true =>
          rw [hb9, cond_true] at he
          unfold jnat at he
          split at he
          · split at he
            · cases he; exact jPq_rfl h
            · cases he
          · cases he
        | false =>
          rw [hb9, cond_false] at he
          exact jmq_run (jmq_call d) _ _ _ he
      · cases he
end
section
/-! THE PURE SIDE: the law's run, by ranges -/
noncomputable def asteps (cs : Nat → Option (List aI)) (call : Nat → List aV → List aE → Option aR) (nL : Nat) (ret : Option FieldType) (tab : Nat → Option jI) : Nat → aC → Option aC
  | 0, c => some c
  | n + 1, c => match tab c.1 with
    | none => none
    | some x => match aexec cs call nL ret x c.1 c.2.1 c.2.2.1 c.2.2.2 with
      | some (.inl c') => asteps cs call nL ret tab n c'
      | _ => none
theorem g_steps {acs : Nat → Option (List aI)} {cs : Nat → Option (List Int32)} (hcs : ∀ (k : Nat) (l : List aI), acs k = some l → ∃ l2, cs k = some l2 ∧ jF2 gI l l2) {ac : Nat → List aV → List aE → Option aR} {jc : Nat → List Value → List jE → Option jR} (hc : gCall ac jc) {nL : Nat} {ret : Option FieldType} {tab : Nat → Option jI} : ∀ (n : Nat) (x : aC) (c : jC) (x' : aC), gC x c → asteps acs ac nL ret tab n x = some x' → ∃ c', gC x' c' ∧ ∀ f, jrun cs jc nL ret tab (n + f) c = jrun cs jc nL ret tab f c'
  | 0, x, c, x', hx, h => by
    cases h
    exact ⟨c, hx, fun f => by rw [Nat.zero_add]⟩
  | n + 1, x, c, x', hx, h => by
    obtain ⟨pc, L, st, h0⟩ := c
    obtain ⟨pa, La, sa, ha⟩ := x
    obtain ⟨e1, e2, e3, e4⟩ := hx
    have e1 : pa = pc := e1
    subst e1
    unfold asteps at h
    simp only [] at h
    cases ht : tab pa with
    | none => simp only [ht] at h; cases h
    | some y =>
      simp only [ht] at h
      cases he : aexec acs ac nL ret y pa La sa ha with
      | none => simp only [he] at h; cases h
      | some o =>
        simp only [he] at h
        obtain ⟨o', o1, o2⟩ := g_exec hcs hc e2 e3 e4 he
        cases o with
        | inr r => cases h
        | inl x1 =>
          cases o' with
          | inr c' => cases o2
          | inl c1 =>
            obtain ⟨c', h1, h2⟩ := g_steps hcs hc n x1 c1 x' o2 h
            refine ⟨c', h1, fun f => ?_⟩
            rw [Nat.succ_add]
            rw [← h2 f]
            show (match jstep cs jc nL ret tab (pa, L, st, h0) with
              | none => none
              | some (.inl c') => jrun cs jc nL ret tab (n + f) c'
              | some (.inr r) => some r) = _
            unfold jstep
            simp only [ht, o1]
noncomputable def axs (X : List aI) (k : Nat) : Option (List aI) := bif Nat.blt k 5 then (jst[k]?).map (fun q => q.2.2.map (fun x => aK x.toInt)) else bif k == 20 then some X else none
theorem f2_exact : ∀ l : List Int32, jF2 gI (l.map (fun x => aK x.toInt)) l
  | [] => trivial
  | x :: l => ⟨gI_K x, f2_exact l⟩
theorem g_axs {X : List aI} {xs : List Int32} (hX : jF2 gI X xs) (k : Nat) (l : List aI) (h : axs X k = some l) : ∃ l2, jcs xs k = some l2 ∧ jF2 gI l l2 := by
  unfold axs at h
  unfold jcs
  cases hk : Nat.blt k 5 with
  | true =>
    rw [hk] at h
    simp only [cond_true] at h ⊢
    cases hq : jst[k]? with
    | none => rw [hq] at h; cases h
    | some q => rw [hq] at h; cases h; exact ⟨_, rfl, f2_exact _⟩
  | false =>
    rw [hk] at h
    simp only [cond_false] at h ⊢
    cases hk2 : (k == 20) with
    | true => rw [hk2] at h; cases h; exact ⟨_, rfl, hX⟩
    | false => rw [hk2] at h; cases h
noncomputable def asz (e : aE) : Nat := match e with
  | .inl o => o.2.length
  | .inr (.inl a) => a.2.length
  | .inr (.inr a) => a.2.length
theorem g_sz : ∀ {a : aE} {e : jE}, gE a e → jsz e = asz a
  | .inl o, .inl p, h => (f2_len h.2).symm
  | .inr (.inl o), .inr (.inl p), h => (f2_len h.2).symm
  | .inr (.inr o), e, h => by
    have h : e = .inr (.inr o) := h
    rw [h]
    rfl
  | .inl o, .inr _, h => by cases h
  | .inr (.inl o), .inl p, h => by cases h
  | .inr (.inl o), .inr (.inr p), h => by cases h
theorem g_jsl : ∀ {a : List aE} {h : List jE}, jF2 gE a h → jsl h = (a.map asz).sum
  | [], [], _ => rfl
  | x :: a, e :: h, g => by
    show jsz e + jsl h = asz x + (a.map asz).sum
    rw [g_sz g.1, g_jsl (a := a) (h := h) g.2]
  | [], e :: h, g => by cases g
  | x :: a, [], g => by cases g
/-- the law answered 1, and laid nothing -/
noncomputable def aok (n : Nat) (r : Option aR) : Bool := match r with
  | some (some (.inl X), h) => decide (X.1 = 1) && (decide (X.2 = 1) && h.length == n)
  | _ => false
theorem g_one {X : aI} {x : Int32} (h1 : X.1 = 1) (h2 : X.2 = 1) (g : gI X x) : x = 1 := by
  have a := g.1
  have b := g.2
  have e : x.toInt = 1 := by omega
  have : x = Int32.ofInt 1 := by rw [← e, Int32.ofInt_toInt]
  rw [this]
  rfl
theorem aok_ok {n : Nat} {r : aR} {r' : jR} (h : aok n (some r) = true) (g : gR r r') : r'.1 = some (.int 1) ∧ r'.2.length = n := by
  obtain ⟨r1, r2⟩ := r
  obtain ⟨g1, g2⟩ := g
  match r1, h, g1 with
  | some (.inl X), h, g1 =>
    obtain ⟨v, v1, v2⟩ := g1
    have h : (decide (X.1 = 1) && (decide (X.2 = 1) && r2.length == n)) = true := h
    rw [Bool.and_eq_true, Bool.and_eq_true, decide_eq_true_eq, decide_eq_true_eq] at h
    have hl : r2.length = n := eq_of_beq h.2.2
    refine ⟨?_, by rw [← hl]; exact (f2_len g2).symm⟩
    rw [v1]
    match v, v2 with
    | .int x, v2 => rw [g_one h.1 h.2.1 v2]
  | some (.inr _), h, _ => cases h
  | none, h, _ => cases h
/-- the pieces of the line at the points -/
noncomputable def apc : Int → List Int → List aI
  | lo, [] => [(lo, 2147483647)]
  | lo, a :: r => (lo, a - 1) :: apc a r
theorem apc_mem (x : Int32) : ∀ (r : List Int) (lo : Int), lo ≤ x.toInt → ∃ X ∈ apc lo r, gI X x
  | [], lo, h => ⟨_, List.mem_singleton.mpr rfl, h, by have := x.toInt_lt; omega⟩
  | a :: r, lo, h => by
    by_cases ha : a ≤ x.toInt
    · obtain ⟨X, h1, h2⟩ := apc_mem x r a ha
      exact ⟨X, List.mem_cons_of_mem _ h1, h2⟩
    · exact ⟨_, List.mem_cons_self, h, by show x.toInt ≤ a - 1; omega⟩
/-- by pieces: first all at once, then piece by piece -/
noncomputable def ack (g : List aI → Bool) : List (List Int) → List aI → Bool
  | [], pre => g pre
  | c :: cs, pre => g pre || (apc (-2147483648) c).all (fun X => ack g cs (pre ++ [X]))
theorem ack_ok {g : List aI → Bool} {P : List Int32 → Prop} {n : Nat} (hg : ∀ (pre : List aI) (a b : List Int32), g pre = true → jF2 gI pre a → a.length + b.length = n → P (a ++ b)) : ∀ (cs : List (List Int)) (pre : List aI) (a b : List Int32), ack g cs pre = true → jF2 gI pre a → a.length + b.length = n → a.length + cs.length ≤ n → P (a ++ b)
  | [], pre, a, b, h, h1, h2, _ => hg pre a b h h1 h2
  | c :: cs, pre, a, b, h, h1, h2, h3 => by
    have h : (g pre || (apc (-2147483648) c).all (fun X => ack g cs (pre ++ [X]))) = true := h
    rw [Bool.or_eq_true] at h
    rcases h with h | h
    · exact hg pre a b h h1 h2
    · rw [List.all_eq_true] at h
      match b, h2 with
      | [], h2 =>
        rw [List.length_nil] at h2
        rw [List.length_cons] at h3
        omega
      | x :: b, h2 =>
        obtain ⟨X, hm, hX⟩ := apc_mem x c (-2147483648) x.le_toInt
        have key := ack_ok hg cs (pre ++ [X]) (a ++ [x]) b (h X hm) (f2_app h1 ⟨hX, trivial⟩) (by rw [List.length_append, List.length_singleton]; rw [List.length_cons] at h2; omega) (by rw [List.length_append, List.length_singleton]; rw [List.length_cons] at h3; omega)
        rw [List.append_assoc] at key
        exact key
theorem f2_top : ∀ l : List Int32, jF2 gI (List.replicate l.length aT) l
  | [] => trivial
  | x :: l => ⟨gI_T x, f2_top l⟩
end
section
/-! THE CALCULUS: runs without counts of steps, over a memory of ints -/
abbrev Mem : Type := Nat → Nat → Int32
noncomputable def mput (m : Mem) (c j : Nat) (x : Int32) : Mem := fun c' j' => bif Nat.beq c' c && Nat.beq j' j then x else m c' j'
noncomputable def mcpy (m : Mem) (q e sp dp n : Nat) : Mem := fun c j => bif Nat.beq c e && (Nat.ble dp j && Nat.blt j (dp + n)) then m q (sp + (j - dp)) else m c j
/-- an object: its class, its fields (0 an int, 1 a String constant by its number, q + 2 the cell q); an int array's length; an array of references -/
abbrev Shp : Type := (Nat × List Nat) ⊕ (Nat ⊕ (Nat × List Nat))
noncomputable def fv (m : Mem) (c k : Nat) : Nat → Value
  | 0 => .int (m c k)
  | 1 => .ref (jK0 + (m c k).toNatClampNeg)
  | q + 2 => .ref q
noncomputable def fvl (m : Mem) (c : Nat) : Nat → List Nat → List Value
  | _, [] => []
  | k, f :: r => fv m c k f :: fvl m c (k + 1) r
noncomputable def cel (m : Mem) (c : Nat) : Shp → jE
  | .inl o => .inl (o.1, fvl m c 0 o.2)
  | .inr (.inl n) => .inr (.inl (0, (List.range n).map (m c)))
  | .inr (.inr a) => .inr (.inr (a.1, a.2.map some))
noncomputable def Ctx (sh : Nat → Option Shp) (K : Mem → List jE) : Prop := ∀ c s, sh c = some s → c < jK0 ∧ (∀ m, (K m)[c]? = some (cel m c s)) ∧ ∀ m m' : Mem, (∀ c', c' ≠ c → m' c' = m c') → K m' = (K m).set c (cel m' c s)
theorem mput_at (m : Mem) (c j : Nat) (x : Int32) : mput m c j x c j = x := by
  unfold mput
  rw [show Nat.beq c c = true from Nat.beq_refl c, show Nat.beq j j = true from Nat.beq_refl j]
  rfl
theorem beq_ne {a b : Nat} (h : a ≠ b) : Nat.beq a b = false := by
  cases hb : Nat.beq a b with
  | false => rfl
  | true => exact absurd (Nat.eq_of_beq_eq_true hb) h
theorem mput_c (m : Mem) {c c' : Nat} (j : Nat) (x : Int32) (h : c' ≠ c) : mput m c j x c' = m c' := by
  funext j'
  unfold mput
  rw [beq_ne h]
  rfl
theorem mput_j (m : Mem) (c c' : Nat) {j j' : Nat} (x : Int32) (h : j' ≠ j) : mput m c j x c' j' = m c' j' := by
  unfold mput
  rw [beq_ne h, Bool.and_false]
  rfl
theorem mcpy_c (m : Mem) {q e c : Nat} (sp dp n : Nat) (h : c ≠ e) : mcpy m q e sp dp n c = m c := by
  funext j'
  unfold mcpy
  rw [beq_ne h]
  rfl
theorem fvl_get (m : Mem) (c : Nat) : ∀ (l : List Nat) (k i : Nat), (fvl m c k l)[i]? = (l[i]?).map (fv m c (k + i))
  | [], _, _ => rfl
  | f :: r, k, 0 => rfl
  | f :: r, k, i + 1 => by
    show (fvl m c (k + 1) r)[i]? = _
    rw [fvl_get m c r (k + 1) i, Nat.add_right_comm, Nat.add_assoc]
    rfl
theorem fvl_len (m : Mem) (c : Nat) : ∀ (l : List Nat) (k : Nat), (fvl m c k l).length = l.length
  | [], _ => rfl
  | f :: r, k => congrArg (· + 1) (fvl_len m c r (k + 1))
noncomputable def CallD (cs : Nat → Option (List Int32)) (d a : Nat) (vs : List Value) (h : List jE) (r : jR) : Prop := ∃ F0, ∀ F, F0 ≤ F → jcall jmt cs F d a vs h = some r
noncomputable def RunD (cs : Nat → Option (List Int32)) (d nL : Nat) (ret : Option FieldType) (tab : Nat → Option jI) (c : jC) (r : jR) : Prop := ∃ F0, ∀ F f, F0 ≤ F → F0 ≤ f → jrun cs (jcall jmt cs F d) nL ret tab f c = some r
theorem CallD_of {cs : Nat → Option (List Int32)} {d a : Nat} {q : jM} {vs : List Value} {h : List jE} {r : jR} (hq : jmt a = some q) (ha : (a == 264) = false) (hl : vs.length = q.2.2.2.2.2.1 ∧ (lg_sl vs).length ≤ q.2.2.2.1) (k : RunD cs d q.2.2.2.1 q.2.2.2.2.1 q.1 (0, lv_args 0 vs, [], h) r) : CallD cs (d + 1) a vs h r := by
  obtain ⟨F0, k⟩ := k
  refine ⟨F0, fun F hF => ?_⟩
  unfold jcall
  rw [hq]
  simp only []
  rw [if_pos hl, ha]
  exact k F F hF hF
theorem jrun_ext {cs : Nat → Option (List Int32)} {j1 j2 : Nat → List Value → List jE → Option jR} {nL : Nat} {ret : Option FieldType} {tab : Nat → Option jI} (hj : ∀ a vs h r, j1 a vs h = some r → j2 a vs h = some r) (hx : ∀ x pc L st h o, jexec cs j1 nL ret x pc L st h = some o → jexec cs j2 nL ret x pc L st h = some o) : ∀ (f : Nat) (c : jC) (r : jR), jrun cs j1 nL ret tab f c = some r → jrun cs j2 nL ret tab f c = some r
  | 0, _, _, h => by cases h
  | f + 1, c, r, h => by
    have h : (match jstep cs j1 nL ret tab c with
      | none => none
      | some (.inl c') => jrun cs j1 nL ret tab f c'
      | some (.inr r) => some r) = some r := h
    show (match jstep cs j2 nL ret tab c with
      | none => none
      | some (.inl c') => jrun cs j2 nL ret tab f c'
      | some (.inr r) => some r) = some r
    unfold jstep at h ⊢
    cases ht : tab c.1 with
    | none => rw [ht] at h; cases h
    | some x =>
      rw [ht] at h
      simp only [] at h ⊢
      cases he : jexec cs j1 nL ret x c.1 c.2.1 c.2.2.1 c.2.2.2 with
      | none => rw [he] at h; cases h
      | some o =>
        rw [he] at h
        rw [hx _ _ _ _ _ _ he]
        cases o with
        | inl c' => exact jrun_ext hj hx f c' r h
        | inr r' => exact h
theorem jinv_ext {j1 j2 : Nat → List Value → List jE → Option jR} (hj : ∀ a vs h r, j1 a vs h = some r → j2 a vs h = some r) {a n t : Nat} {L : List (Nat × Value)} {st : List Value} {h : List jE} {o : jC ⊕ jR} (e : jinv j1 a n t L st h = some o) : jinv j2 a n t L st h = some o := by
  unfold jinv at e ⊢
  split at e
  · rename_i hc
    rw [if_pos hc]
    cases hr : j1 a (st.take n).reverse h with
    | none => rw [hr] at e; cases e
    | some r => rw [hr] at e; rw [hj _ _ _ _ hr]; exact e
  · cases e
theorem jinvI_ext {j1 j2 : Nat → List Value → List jE → Option jR} (hj : ∀ a vs h r, j1 a vs h = some r → j2 a vs h = some r) {a n t : Nat} {L : List (Nat × Value)} {st : List Value} {h : List jE} {o : jC ⊕ jR} (e : jinvI j1 a n t L st h = some o) : jinvI j2 a n t L st h = some o := by
  unfold jinvI at e ⊢
  split at e
  · exact jinv_ext hj e
  · cases e
theorem jinvV_ext {j1 j2 : Nat → List Value → List jE → Option jR} (hj : ∀ a vs h r, j1 a vs h = some r → j2 a vs h = some r) {a n ci t : Nat} {L : List (Nat × Value)} {st : List Value} {h : List jE} {o : jC ⊕ jR} (e : jinvV j1 a n ci t L st h = some o) : jinvV j2 a n ci t L st h = some o := by
  unfold jinvV at e ⊢
  split at e
  · split at e
    · rename_i i _ _ _ ob _
      cases hb : (ob.1 == ci) with
      | true => rw [hb] at e; exact jinv_ext hj e
      | false => rw [hb] at e; cases e
    · cases e
  · cases e
theorem jinvK_ext {j1 j2 : Nat → List Value → List jE → Option jR} (hj : ∀ a vs h r, j1 a vs h = some r → j2 a vs h = some r) {a n t : Nat} {L : List (Nat × Value)} {st : List Value} {h : List jE} {o : jC ⊕ jR} (e : jinvK j1 a n t L st h = some o) : jinvK j2 a n t L st h = some o := by
  unfold jinvK at e ⊢
  split at e
  · rename_i i _ _
    cases hb : jstq i with
    | true => rw [hb] at e; exact jinv_ext hj e
    | false => rw [hb] at e; cases e
  · cases e
noncomputable def jspec1 (t : Nat) (L : List (Nat × Value)) (st : List Value) (h : List jE) : jO := match st with
  | .ref _ :: r => if (r.map fun v => v.category).sum ≤ 8 then jgo t L r h else none
  | _ => none
theorem jexec_ext {cs : Nat → Option (List Int32)} {j1 j2 : Nat → List Value → List jE → Option jR} {nL : Nat} {ret : Option FieldType} (hj : ∀ a vs h r, j1 a vs h = some r → j2 a vs h = some r) (x : jI) (pc : Nat) (L : List (Nat × Value)) (st : List Value) (h : List jE) (o : jC ⊕ jR) (e : jexec cs j1 nL ret x pc L st h = some o) : jexec cs j2 nL ret x pc L st h = some o := by
  obtain ⟨ins, len, a, b, c, k⟩ := x
  cases ins
  case invokevirtual i =>
    have e : (bif k == 9 then jinvK j1 a b (pc + 3) L st h else jinvV j1 a b c (pc + 3) L st h) = some o := e
    show (bif k == 9 then jinvK j2 a b (pc + 3) L st h else jinvV j2 a b c (pc + 3) L st h) = some o
    cases hb : (k == 9) with
    | true => rw [hb] at e; exact jinvK_ext hj e
    | false => rw [hb] at e; exact jinvV_ext hj e
  case invokespecial i =>
    have e : (bif c == 1 then jspec1 (pc + 3) L st h else jinvI j1 a b (pc + 3) L st h) = some o := e
    show (bif c == 1 then jspec1 (pc + 3) L st h else jinvI j2 a b (pc + 3) L st h) = some o
    cases hb : (c == 1) with
    | true => rw [hb] at e; exact e
    | false => rw [hb] at e; exact jinvI_ext hj e
  case invokestatic i =>
    have e : (bif c == 1 then jcopy (pc + 3) L st h else jinv j1 a b (pc + 3) L st h) = some o := e
    show (bif c == 1 then jcopy (pc + 3) L st h else jinv j2 a b (pc + 3) L st h) = some o
    cases hb : (c == 1) with
    | true => rw [hb] at e; exact e
    | false => rw [hb] at e; exact jinv_ext hj e
  all_goals exact e
theorem jcall_up {cs : Nat → Option (List Int32)} {F : Nat} : ∀ (d a : Nat) (vs : List Value) (h : List jE) (r : jR), jcall jmt cs F d a vs h = some r → jcall jmt cs F (d + 1) a vs h = some r
  | 0, _, _, _, _, e => by cases e
  | d + 1, a, vs, h, r, e => by
    unfold jcall at e ⊢
    cases hq : jmt a with
    | none => rw [hq] at e; cases e
    | some q =>
      rw [hq] at e
      simp only [] at e ⊢
      split at e
      · rename_i hc
        rw [if_pos hc]
        rcases Bool.eq_false_or_eq_true (a == 264) with hb9 | hb9
        · rw [hb9, cond_true] at e ⊢
          cases d with
          | zero => cases e
          | succ d =>
            unfold jnat at e ⊢
            split at e
            · exact e
            · cases e
        rw [hb9, cond_false] at e ⊢
        exact jrun_ext (fun a vs h r => jcall_up d a vs h r) (fun x pc L st h o => jexec_ext (fun a vs h r => jcall_up d a vs h r) x pc L st h o) _ _ _ e
      · cases e
theorem CallD.up {cs : Nat → Option (List Int32)} {d a : Nat} {vs : List Value} {h : List jE} {r : jR} : ∀ {e : Nat}, d ≤ e → CallD cs d a vs h r → CallD cs e a vs h r := by
  intro e he ⟨F0, k⟩
  refine ⟨F0, fun F hF => ?_⟩
  obtain ⟨n, rfl⟩ := Nat.exists_eq_add_of_le he
  clear he
  induction n with
  | zero => exact k F hF
  | succ n ih => exact jcall_up _ _ _ _ _ ih
end
