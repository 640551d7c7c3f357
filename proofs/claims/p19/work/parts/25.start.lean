theorem jn_CS : Cond.laysStatic "java/lang/String" "COMPACT_STRINGS" "Z" ∈ lw_tbl := (jch_3 (List.mem_of_getElem? (i := 139) rfl))
theorem jn_CSi : Cond.initialized "java/lang/String" ∈ lw_tbl := (jch_1 (List.mem_of_getElem? (i := 15) rfl))
theorem jn_PF : Cond.laysStatic "jdk/internal/util/Preconditions" "SIOOBE_FORMATTER" "Ljava/util/function/BiFunction;" ∈ lw_tbl := (jch_3 (List.mem_of_getElem? (i := 178) rfl))
theorem jn_PFi : Cond.initialized "jdk/internal/util/Preconditions" ∈ lw_tbl := (jch_1 (List.mem_of_getElem? (i := 18) rfl))
theorem jn_PFl : Cond.fieldLink RJ0 1053 "jdk/internal/util/Preconditions" "SIOOBE_FORMATTER" "Ljava/util/function/BiFunction;" ∈ lw_tbl := (jch_3 (List.mem_of_getElem? (i := 177) rfl))
theorem jn_AO2 : Cond.arrayOver (.object "FoamHead$Text") ∈ lw_tbl := (jch_1 (List.mem_of_getElem? (i := 95) rfl))
theorem jn_AO3 : Cond.arrayOver (.object "java/lang/String") ∈ lw_tbl := (jch_5 (List.mem_of_getElem? (i := 66) rfl))
theorem jn_AO1 : Cond.arrayOver (.array .int) ∈ lw_tbl := (jch_1 (List.mem_of_getElem? (i := 41) rfl))
theorem jn_I : Cond.arrayClass .int ∈ lw_tbl := (jch_1 (List.mem_of_getElem? (i := 93) rfl))
theorem jn_N0 : Cond.methodLinkNest "FoamHead" 9 ⟨"FoamHead$World", "<init>", "()V"⟩ "FoamHead" ∈ lw_tbl := (jch_1 (List.mem_of_getElem? (i := 30) rfl))
theorem jn_N1 : Cond.methodLinkNest "FoamHead$World" 11 ⟨"FoamHead$Foam", "<init>", "()V"⟩ "FoamHead" ∈ lw_tbl := (jch_1 (List.mem_of_getElem? (i := 36) rfl))
theorem jn_N2 : Cond.methodLinkNest "FoamHead$World" 20 ⟨"FoamHead$Text", "<init>", "()V"⟩ "FoamHead" ∈ lw_tbl := (jch_1 (List.mem_of_getElem? (i := 97) rfl))
theorem jn_N3 : Cond.methodLinkNest "FoamHead" 24 ⟨"FoamHead$Reader", "<init>", "()V"⟩ "FoamHead" ∈ lw_tbl := (jch_1 (List.mem_of_getElem? (i := 169) rfl))
theorem jn_N4 : Cond.methodLinkNest "FoamHead" 31 ⟨"FoamHead$Search", "<init>", "()V"⟩ "FoamHead" ∈ lw_tbl := (jch_1 (List.mem_of_getElem? (i := 202) rfl))
theorem jn_N5 : Cond.methodLinkNest "FoamHead" 38 ⟨"FoamHead$Voices", "<init>", "()V"⟩ "FoamHead" ∈ lw_tbl := (jch_1 (List.mem_of_getElem? (i := 222) rfl))
theorem jn_N6 : Cond.methodLinkNest "FoamHead" 45 ⟨"FoamHead$Sheets", "<init>", "()V"⟩ "FoamHead" ∈ lw_tbl := (jch_2 (List.mem_of_getElem? (i := 16) rfl))
theorem jn_S0 : Cond.stringRef "FoamHead$Reader" 18 "" ∈ lw_tbl := (jch_1 (List.mem_of_getElem? (i := 173) rfl))
theorem jn_S1 : Cond.stringRef "FoamHead$Reader" 24 "stghn" ∈ lw_tbl := (jch_3 (List.mem_of_getElem? (i := 91) rfl))
theorem jn_S2 : Cond.stringRef "FoamHead$Reader" 26 "wvstn" ∈ lw_tbl := (jch_3 (List.mem_of_getElem? (i := 92) rfl))
theorem jn_S3 : Cond.stringRef "FoamHead$Reader" 28 "sgwrk" ∈ lw_tbl := (jch_3 (List.mem_of_getElem? (i := 93) rfl))
theorem jn_S4 : Cond.stringRef "FoamHeadModel" 27 "stghn" ∈ lw_tbl := (jch_5 (List.mem_of_getElem? (i := 67) rfl))
theorem jn_S5 : Cond.stringRef "FoamHeadModel" 29 "wvstn" ∈ lw_tbl := (jch_5 (List.mem_of_getElem? (i := 68) rfl))
theorem jn_S6 : Cond.stringRef "FoamHeadModel" 31 "sgwrk" ∈ lw_tbl := (jch_5 (List.mem_of_getElem? (i := 69) rfl))
theorem jn_L0 : Cond.laysStatic "FoamHead$Foam" "ROW_STEP" "[I" ∈ lw_tbl := (jch_2 (List.mem_of_getElem? (i := 95) rfl))
theorem jn_i0 : Cond.initialized "FoamHead$Foam" ∈ lw_tbl := (jch_1 (List.mem_of_getElem? (i := 3) rfl))
theorem jn_L1 : Cond.laysStatic "FoamHead$Foam" "ODD_STEP" "[I" ∈ lw_tbl := (jch_2 (List.mem_of_getElem? (i := 91) rfl))
theorem jn_i1 : Cond.initialized "FoamHead$Foam" ∈ lw_tbl := (jch_1 (List.mem_of_getElem? (i := 3) rfl))
theorem jn_L2 : Cond.laysStatic "FoamHead$Foam" "EVEN_STEP" "[I" ∈ lw_tbl := (jch_2 (List.mem_of_getElem? (i := 93) rfl))
theorem jn_i2 : Cond.initialized "FoamHead$Foam" ∈ lw_tbl := (jch_1 (List.mem_of_getElem? (i := 3) rfl))
theorem jn_L3 : Cond.laysStatic "FoamHead$Kinds" "ABOVE" "[I" ∈ lw_tbl := (jch_2 (List.mem_of_getElem? (i := 180) rfl))
theorem jn_i3 : Cond.initialized "FoamHead$Kinds" ∈ lw_tbl := (jch_1 (List.mem_of_getElem? (i := 13) rfl))
theorem jn_L4 : Cond.laysStatic "FoamHead$Voices" "BODIES" "[I" ∈ lw_tbl := (jch_4 (List.mem_of_getElem? (i := 217) rfl))
theorem jn_i4 : Cond.initialized "FoamHead$Voices" ∈ lw_tbl := (jch_1 (List.mem_of_getElem? (i := 7) rfl))
theorem jn_C0 : Cond.instantiable RX0 11 ∈ lw_tbl := (jch_1 (List.mem_of_getElem? (i := 35) rfl))
theorem jn_C1 : Cond.instantiable RX2 7 ∈ lw_tbl := (jch_1 (List.mem_of_getElem? (i := 168) rfl))
theorem jn_C2 : Cond.instantiable RX3 4 ∈ lw_tbl := (jch_1 (List.mem_of_getElem? (i := 201) rfl))
theorem jn_C3 : Cond.instantiable RX4 3 ∈ lw_tbl := (jch_2 (List.mem_of_getElem? (i := 15) rfl))
theorem jn_C4 : Cond.instantiable RX5 3 ∈ lw_tbl := (jch_1 (List.mem_of_getElem? (i := 96) rfl))
theorem jn_C5 : Cond.instantiable RX6 8 ∈ lw_tbl := (jch_1 (List.mem_of_getElem? (i := 221) rfl))
theorem jn_C6 : Cond.instantiable RX7 14 ∈ lw_tbl := (jch_1 (List.mem_of_getElem? (i := 29) rfl))
theorem jn_C7 : Cond.instantiable RX8 9 ∈ lw_tbl := (jch_1 (List.mem_of_getElem? (i := 21) rfl))
theorem jn_C8 : Cond.instantiable RX9 26 ∈ lw_tbl := (jch_5 (List.mem_of_getElem? (i := 60) rfl))
/-! the law from its entry, out of a run of the interpreter -/
noncomputable def jlaw (F : Nat) (xs : List Int32) : Option jR := jrun (jcs xs) (jcall jmt (jcs xs) F 300) 4 (some .boolean) jt_L_law F (0, [(0, .ref (jK0 + 20))], [], [])
set_option maxHeartbeats 4000000 in
set_option maxRecDepth 100000 in
theorem j_start {p : Program} {s : State} {m : MethodId} {meth : Method} {c : Code} {b L : Nat} {xs : Nat → Int32} (C0 : lw_At p s m meth c b L xs) : ∃ (ca : Nat → Nat) (cT : Nat → ClassId) (D : va_G), jK ((List.range L).map xs) ca cT D (fun q => s.heap.size ≤ q) s s.heap ∧ ca 20 = b := by
  obtain ⟨hx, hb, hr, hml, hown, hts, hX, hbl, hlocks, hgv⟩ := C0
  have hfl := flat_of_before _ hgv
  have hA0 : ∀ a : Nat, a < s.heap.size → ¬ (fun q : Nat => s.heap.size ≤ q) a := fun a h => Nat.not_le.mpr h
  obtain ⟨cc0, iS0, hKn0⟩ := u_known (C := RX0) (T := TX0) (N := 11) (n := 11) hts (fun w hw => jG_in w (ju_0 w hw)) (hts _ jn_C0)
  obtain ⟨cc1, iS1, hKn1⟩ := u_known (C := RX2) (T := TX2) (N := 7) (n := 7) hts (fun w hw => jG_in w (ju_1 w hw)) (hts _ jn_C1)
  obtain ⟨cc2, iS2, hKn2⟩ := u_known (C := RX3) (T := TX3) (N := 4) (n := 4) hts (fun w hw => jG_in w (ju_2 w hw)) (hts _ jn_C2)
  obtain ⟨cc3, iS3, hKn3⟩ := u_known (C := RX4) (T := TX4) (N := 3) (n := 3) hts (fun w hw => jG_in w (ju_3 w hw)) (hts _ jn_C3)
  obtain ⟨cc4, iS4, hKn4⟩ := u_known (C := RX5) (T := TX5) (N := 3) (n := 3) hts (fun w hw => jG_in w (ju_4 w hw)) (hts _ jn_C4)
  obtain ⟨cc5, iS5, hKn5⟩ := u_known (C := RX6) (T := TX6) (N := 8) (n := 8) hts (fun w hw => jG_in w (ju_5 w hw)) (hts _ jn_C5)
  obtain ⟨cc6, iS6, hKn6⟩ := u_known (C := RX7) (T := TX7) (N := 14) (n := 14) hts (fun w hw => jG_in w (ju_6 w hw)) (hts _ jn_C6)
  obtain ⟨cc7, iS7, hKn7⟩ := u_known (C := RX8) (T := TX8) (N := 9) (n := 9) hts (fun w hw => jG_in w (ju_7 w hw)) (hts _ jn_C7)
  obtain ⟨cc8, iS8, hKn8⟩ := u_known (C := RX9) (T := TX9) (N := 26) (n := 26) hts (fun w hw => jG_in w (ju_8 w hw)) (hts _ jn_C8)
  obtain ⟨dC, dI, hKc⟩ : ∃ (dC : Nat → ClassId) (dI : Nat → Nat → Nat), ∀ (k : Nat) (q : vw_C), vwCl[k]? = some q → u_Kn s q.1 q.2.1 q.2.2 (dC k) (dI k) := by
    refine ⟨fun k => if k = 0 then cc0 else if k = 1 then cc1 else if k = 2 then cc2 else if k = 3 then cc3 else if k = 4 then cc4 else if k = 5 then cc5 else if k = 6 then cc6 else if k = 7 then cc7 else cc8, fun k => if k = 0 then iS0 else if k = 1 then iS1 else if k = 2 then iS2 else if k = 3 then iS3 else if k = 4 then iS4 else if k = 5 then iS5 else if k = 6 then iS6 else if k = 7 then iS7 else iS8, ?_⟩
    intro k q hq
    match k, hq with
    | 0, hq => cases hq; exact hKn0
    | 1, hq => cases hq; exact hKn1
    | 2, hq => cases hq; exact hKn2
    | 3, hq => cases hq; exact hKn3
    | 4, hq => cases hq; exact hKn4
    | 5, hq => cases hq; exact hKn5
    | 6, hq => cases hq; exact hKn6
    | 7, hq => cases hq; exact hKn7
    | 8, hq => cases hq; exact hKn8
    | k + 9, hq => simp [vwCl] at hq
  obtain ⟨t0, te0, tT0⟩ := va_Tof (tm := .static "FoamHead$Foam" "ROW_STEP" "[I") (ty := .int) (N := 6) (f := fun j => .int (([0, 1, 1, 0, -1, -1] : List Int32).getD j 0)) (by decide) (hfl _ (by decide +kernel)) (va_eqt (z := Int32.ofNat 6) (hfl _ (by decide +kernel))) (fun j hj => va_eqt (z := ([0, 1, 1, 0, -1, -1] : List Int32).getD j 0) (hfl _ ((by decide +kernel : ∀ j, j < 6 → Cond.eq (.elem (.static "FoamHead$Foam" "ROW_STEP" "[I") (.int (Int32.ofNat j))) (.int (([0, 1, 1, 0, -1, -1] : List Int32).getD j 0)) ∈ flatC (Jvm.Cond.and given_1 narrow_1)) j hj))) hA0
  have tZ0 := va_Zref (hts _ jn_L0) (hts _ jn_i0) te0 hA0
  obtain ⟨t1, te1, tT1⟩ := va_Tof (tm := .static "FoamHead$Foam" "ODD_STEP" "[I") (ty := .int) (N := 6) (f := fun j => .int (([1, 1, 0, -1, 0, 1] : List Int32).getD j 0)) (by decide) (hfl _ (by decide +kernel)) (va_eqt (z := Int32.ofNat 6) (hfl _ (by decide +kernel))) (fun j hj => va_eqt (z := ([1, 1, 0, -1, 0, 1] : List Int32).getD j 0) (hfl _ ((by decide +kernel : ∀ j, j < 6 → Cond.eq (.elem (.static "FoamHead$Foam" "ODD_STEP" "[I") (.int (Int32.ofNat j))) (.int (([1, 1, 0, -1, 0, 1] : List Int32).getD j 0)) ∈ flatC (Jvm.Cond.and given_1 narrow_1)) j hj))) hA0
  have tZ1 := va_Zref (hts _ jn_L1) (hts _ jn_i1) te1 hA0
  obtain ⟨t2, te2, tT2⟩ := va_Tof (tm := .static "FoamHead$Foam" "EVEN_STEP" "[I") (ty := .int) (N := 6) (f := fun j => .int (([1, 0, -1, -1, -1, 0] : List Int32).getD j 0)) (by decide) (hfl _ (by decide +kernel)) (va_eqt (z := Int32.ofNat 6) (hfl _ (by decide +kernel))) (fun j hj => va_eqt (z := ([1, 0, -1, -1, -1, 0] : List Int32).getD j 0) (hfl _ ((by decide +kernel : ∀ j, j < 6 → Cond.eq (.elem (.static "FoamHead$Foam" "EVEN_STEP" "[I") (.int (Int32.ofNat j))) (.int (([1, 0, -1, -1, -1, 0] : List Int32).getD j 0)) ∈ flatC (Jvm.Cond.and given_1 narrow_1)) j hj))) hA0
  have tZ2 := va_Zref (hts _ jn_L2) (hts _ jn_i2) te2 hA0
  obtain ⟨t3, te3, tT3⟩ := va_Tof (tm := .static "FoamHead$Kinds" "ABOVE" "[I") (ty := .int) (N := 7) (f := fun j => .int (([-1, 0, 1, 0, 0, 3, 0] : List Int32).getD j 0)) (by decide) (hfl _ (by decide +kernel)) (va_eqt (z := Int32.ofNat 7) (hfl _ (by decide +kernel))) (fun j hj => va_eqt (z := ([-1, 0, 1, 0, 0, 3, 0] : List Int32).getD j 0) (hfl _ ((by decide +kernel : ∀ j, j < 7 → Cond.eq (.elem (.static "FoamHead$Kinds" "ABOVE" "[I") (.int (Int32.ofNat j))) (.int (([-1, 0, 1, 0, 0, 3, 0] : List Int32).getD j 0)) ∈ flatC (Jvm.Cond.and given_1 narrow_1)) j hj))) hA0
  have tZ3 := va_Zref (hts _ jn_L3) (hts _ jn_i3) te3 hA0
  obtain ⟨t4, te4, tT4⟩ := va_Tof (tm := .static "FoamHead$Voices" "BODIES" "[I") (ty := .int) (N := 28) (f := fun j => .int (([10, 11, 12, 13, 20, 0, 0, 21, 30, 0, 31, 0, 0, 41, 40, 0, 0, 0, 0, 50, 0, 60, 61, 0, 70, 0, 0, 0] : List Int32).getD j 0)) (by decide) (hfl _ (by decide +kernel)) (va_eqt (z := Int32.ofNat 28) (hfl _ (by decide +kernel))) (fun j hj => va_eqt (z := ([10, 11, 12, 13, 20, 0, 0, 21, 30, 0, 31, 0, 0, 41, 40, 0, 0, 0, 0, 50, 0, 60, 61, 0, 70, 0, 0, 0] : List Int32).getD j 0) (hfl _ ((by decide +kernel : ∀ j, j < 28 → Cond.eq (.elem (.static "FoamHead$Voices" "BODIES" "[I") (.int (Int32.ofNat j))) (.int (([10, 11, 12, 13, 20, 0, 0, 21, 30, 0, 31, 0, 0, 41, 40, 0, 0, 0, 0, 50, 0, 60, 61, 0, 70, 0, 0, 0] : List Int32).getD j 0)) ∈ flatC (Jvm.Cond.and given_1 narrow_1)) j hj))) hA0
  have tZ4 := va_Zref (hts _ jn_L4) (hts _ jn_i4) te4 hA0
  have sx0 : (Cond.exactly (.string "FoamHead$Reader" 18) "java/lang/String").before #[Value.ref b] s = true := hfl _ (by decide +kernel)
  obtain ⟨q0, -, -, -, se0, -, -, -, -, -, -⟩ := Cond.exactly_spec (args := #[Value.ref b]) (first := s) (o := none) (s := s) (idx := []) sx0
  have sO0 := va_Oof sx0 se0 hA0
  have sR0 := vk_R.of (hts _ jn_S0) se0
  have sx1 : (Cond.exactly (.string "FoamHead$Reader" 24) "java/lang/String").before #[Value.ref b] s = true := hfl _ (by decide +kernel)
  obtain ⟨q1, -, -, -, se1, -, -, -, -, -, -⟩ := Cond.exactly_spec (args := #[Value.ref b]) (first := s) (o := none) (s := s) (idx := []) sx1
  have sO1 := va_Oof sx1 se1 hA0
  have sR1 := vk_R.of (hts _ jn_S1) se1
  have sx2 : (Cond.exactly (.string "FoamHead$Reader" 26) "java/lang/String").before #[Value.ref b] s = true := hfl _ (by decide +kernel)
  obtain ⟨q2, -, -, -, se2, -, -, -, -, -, -⟩ := Cond.exactly_spec (args := #[Value.ref b]) (first := s) (o := none) (s := s) (idx := []) sx2
  have sO2 := va_Oof sx2 se2 hA0
  have sR2 := vk_R.of (hts _ jn_S2) se2
  have sx3 : (Cond.exactly (.string "FoamHead$Reader" 28) "java/lang/String").before #[Value.ref b] s = true := hfl _ (by decide +kernel)
  obtain ⟨q3, -, -, -, se3, -, -, -, -, -, -⟩ := Cond.exactly_spec (args := #[Value.ref b]) (first := s) (o := none) (s := s) (idx := []) sx3
  have sO3 := va_Oof sx3 se3 hA0
  have sR3 := vk_R.of (hts _ jn_S3) se3
  have sx4 : (Cond.exactly (.string "FoamHeadModel" 27) "java/lang/String").before #[Value.ref b] s = true := hfl _ (by decide +kernel)
  obtain ⟨q4, -, -, -, se4, -, -, -, -, -, -⟩ := Cond.exactly_spec (args := #[Value.ref b]) (first := s) (o := none) (s := s) (idx := []) sx4
  have sO4 := va_Oof sx4 se4 hA0
  have sR4 := vk_R.of (hts _ jn_S4) se4
  have sx5 : (Cond.exactly (.string "FoamHeadModel" 29) "java/lang/String").before #[Value.ref b] s = true := hfl _ (by decide +kernel)
  obtain ⟨q5, -, -, -, se5, -, -, -, -, -, -⟩ := Cond.exactly_spec (args := #[Value.ref b]) (first := s) (o := none) (s := s) (idx := []) sx5
  have sO5 := va_Oof sx5 se5 hA0
  have sR5 := vk_R.of (hts _ jn_S5) se5
  have sx6 : (Cond.exactly (.string "FoamHeadModel" 31) "java/lang/String").before #[Value.ref b] s = true := hfl _ (by decide +kernel)
  obtain ⟨q6, -, -, -, se6, -, -, -, -, -, -⟩ := Cond.exactly_spec (args := #[Value.ref b]) (first := s) (o := none) (s := s) (idx := []) sx6
  have sO6 := va_Oof sx6 se6 hA0
  have sR6 := vk_R.of (hts _ jn_S6) se6
  obtain ⟨cA0, kA0, comp0, f1, f2, f3⟩ := Cond.arrayClass_spec (hts _ jn_I)
  have sC0 := vk_OFof (o := "java/lang/String") (n := "coder") (d := "B") se0 (va_eqt (z := 0) (hfl _ (by decide +kernel))) hA0
  obtain ⟨v0, ve0, vT0⟩ := va_Tof (tm := (.field (.string "FoamHead$Reader" 18) "java/lang/String" "value" "[B")) (ty := .byte) (N := 0) (f := fun j => .int (([] : List Int32).getD j 0)) (by decide) (hfl _ (by decide +kernel)) (va_eqt (z := Int32.ofNat 0) (hfl _ (by decide +kernel))) (fun j hj => va_eqt (z := ([] : List Int32).getD j 0) (hfl _ ((by decide +kernel : ∀ j, j < 0 → Cond.eq (.elem (.field (.string "FoamHead$Reader" 18) "java/lang/String" "value" "[B") (.int (Int32.ofNat j))) (.int (([] : List Int32).getD j 0)) ∈ flatC (Jvm.Cond.and given_1 narrow_1)) j hj))) hA0
  have sV0 := vk_OFof se0 ve0 hA0
  have sC1 := vk_OFof (o := "java/lang/String") (n := "coder") (d := "B") se1 (va_eqt (z := 0) (hfl _ (by decide +kernel))) hA0
  obtain ⟨v1, ve1, vT1⟩ := va_Tof (tm := (.field (.string "FoamHead$Reader" 24) "java/lang/String" "value" "[B")) (ty := .byte) (N := 5) (f := fun j => .int (([115, 116, 103, 104, 110] : List Int32).getD j 0)) (by decide) (hfl _ (by decide +kernel)) (va_eqt (z := Int32.ofNat 5) (hfl _ (by decide +kernel))) (fun j hj => va_eqt (z := ([115, 116, 103, 104, 110] : List Int32).getD j 0) (hfl _ ((by decide +kernel : ∀ j, j < 5 → Cond.eq (.elem (.field (.string "FoamHead$Reader" 24) "java/lang/String" "value" "[B") (.int (Int32.ofNat j))) (.int (([115, 116, 103, 104, 110] : List Int32).getD j 0)) ∈ flatC (Jvm.Cond.and given_1 narrow_1)) j hj))) hA0
  have sV1 := vk_OFof se1 ve1 hA0
  have sC2 := vk_OFof (o := "java/lang/String") (n := "coder") (d := "B") se2 (va_eqt (z := 0) (hfl _ (by decide +kernel))) hA0
  obtain ⟨v2, ve2, vT2⟩ := va_Tof (tm := (.field (.string "FoamHead$Reader" 26) "java/lang/String" "value" "[B")) (ty := .byte) (N := 5) (f := fun j => .int (([119, 118, 115, 116, 110] : List Int32).getD j 0)) (by decide) (hfl _ (by decide +kernel)) (va_eqt (z := Int32.ofNat 5) (hfl _ (by decide +kernel))) (fun j hj => va_eqt (z := ([119, 118, 115, 116, 110] : List Int32).getD j 0) (hfl _ ((by decide +kernel : ∀ j, j < 5 → Cond.eq (.elem (.field (.string "FoamHead$Reader" 26) "java/lang/String" "value" "[B") (.int (Int32.ofNat j))) (.int (([119, 118, 115, 116, 110] : List Int32).getD j 0)) ∈ flatC (Jvm.Cond.and given_1 narrow_1)) j hj))) hA0
  have sV2 := vk_OFof se2 ve2 hA0
  have sC3 := vk_OFof (o := "java/lang/String") (n := "coder") (d := "B") se3 (va_eqt (z := 0) (hfl _ (by decide +kernel))) hA0
  obtain ⟨v3, ve3, vT3⟩ := va_Tof (tm := (.field (.string "FoamHead$Reader" 28) "java/lang/String" "value" "[B")) (ty := .byte) (N := 5) (f := fun j => .int (([115, 103, 119, 114, 107] : List Int32).getD j 0)) (by decide) (hfl _ (by decide +kernel)) (va_eqt (z := Int32.ofNat 5) (hfl _ (by decide +kernel))) (fun j hj => va_eqt (z := ([115, 103, 119, 114, 107] : List Int32).getD j 0) (hfl _ ((by decide +kernel : ∀ j, j < 5 → Cond.eq (.elem (.field (.string "FoamHead$Reader" 28) "java/lang/String" "value" "[B") (.int (Int32.ofNat j))) (.int (([115, 103, 119, 114, 107] : List Int32).getD j 0)) ∈ flatC (Jvm.Cond.and given_1 narrow_1)) j hj))) hA0
  have sV3 := vk_OFof se3 ve3 hA0
  have sC4 := vk_OFof (o := "java/lang/String") (n := "coder") (d := "B") se4 (va_eqt (z := 0) (hfl _ (by decide +kernel))) hA0
  obtain ⟨v4, ve4, vT4⟩ := va_Tof (tm := (.field (.string "FoamHeadModel" 27) "java/lang/String" "value" "[B")) (ty := .byte) (N := 5) (f := fun j => .int (([115, 116, 103, 104, 110] : List Int32).getD j 0)) (by decide) (hfl _ (by decide +kernel)) (va_eqt (z := Int32.ofNat 5) (hfl _ (by decide +kernel))) (fun j hj => va_eqt (z := ([115, 116, 103, 104, 110] : List Int32).getD j 0) (hfl _ ((by decide +kernel : ∀ j, j < 5 → Cond.eq (.elem (.field (.string "FoamHeadModel" 27) "java/lang/String" "value" "[B") (.int (Int32.ofNat j))) (.int (([115, 116, 103, 104, 110] : List Int32).getD j 0)) ∈ flatC (Jvm.Cond.and given_1 narrow_1)) j hj))) hA0
  have sV4 := vk_OFof se4 ve4 hA0
  have sC5 := vk_OFof (o := "java/lang/String") (n := "coder") (d := "B") se5 (va_eqt (z := 0) (hfl _ (by decide +kernel))) hA0
  obtain ⟨v5, ve5, vT5⟩ := va_Tof (tm := (.field (.string "FoamHeadModel" 29) "java/lang/String" "value" "[B")) (ty := .byte) (N := 5) (f := fun j => .int (([119, 118, 115, 116, 110] : List Int32).getD j 0)) (by decide) (hfl _ (by decide +kernel)) (va_eqt (z := Int32.ofNat 5) (hfl _ (by decide +kernel))) (fun j hj => va_eqt (z := ([119, 118, 115, 116, 110] : List Int32).getD j 0) (hfl _ ((by decide +kernel : ∀ j, j < 5 → Cond.eq (.elem (.field (.string "FoamHeadModel" 29) "java/lang/String" "value" "[B") (.int (Int32.ofNat j))) (.int (([119, 118, 115, 116, 110] : List Int32).getD j 0)) ∈ flatC (Jvm.Cond.and given_1 narrow_1)) j hj))) hA0
  have sV5 := vk_OFof se5 ve5 hA0
  have sC6 := vk_OFof (o := "java/lang/String") (n := "coder") (d := "B") se6 (va_eqt (z := 0) (hfl _ (by decide +kernel))) hA0
  obtain ⟨v6, ve6, vT6⟩ := va_Tof (tm := (.field (.string "FoamHeadModel" 31) "java/lang/String" "value" "[B")) (ty := .byte) (N := 5) (f := fun j => .int (([115, 103, 119, 114, 107] : List Int32).getD j 0)) (by decide) (hfl _ (by decide +kernel)) (va_eqt (z := Int32.ofNat 5) (hfl _ (by decide +kernel))) (fun j hj => va_eqt (z := ([115, 103, 119, 114, 107] : List Int32).getD j 0) (hfl _ ((by decide +kernel : ∀ j, j < 5 → Cond.eq (.elem (.field (.string "FoamHeadModel" 31) "java/lang/String" "value" "[B") (.int (Int32.ofNat j))) (.int (([115, 103, 119, 114, 107] : List Int32).getD j 0)) ∈ flatC (Jvm.Cond.and given_1 narrow_1)) j hj))) hA0
  have sV6 := vk_OFof se6 ve6 hA0
  have sZ9 := va_Zof (C := "java/lang/String") (n := "COMPACT_STRINGS") (d := "Z") (hts _ jn_CS) (hts _ jn_CSi) (va_eqt (z := 1) (hfl _ (by decide +kernel))) hA0
  obtain ⟨p9, sP9⟩ : ∃ p9 : Nat, va_Z "jdk/internal/util/Preconditions" "SIOOBE_FORMATTER" "Ljava/util/function/BiFunction;" .null (fun q : Nat => s.heap.size ≤ q) s s.heap ∨ va_Z "jdk/internal/util/Preconditions" "SIOOBE_FORMATTER" "Ljava/util/function/BiFunction;" (.ref p9) (fun q : Nat => s.heap.size ≤ q) s s.heap := by
    rcases va_Zqof (hts _ jn_PF) (hts _ jn_PFi) (hfl _ (by decide +kernel)) hA0 with h9 | ⟨t9, h9⟩
    · exact ⟨0, Or.inl h9⟩
    · exact ⟨t9, Or.inr h9⟩
  obtain ⟨comp1, cA1, kA1, g1, -, g2, g3, g4⟩ := arrayOverA_spec (hts _ jn_AO1)
  obtain ⟨comp2, cA2, kA2, e1, -, e2, e3, e4⟩ := Cond.arrayOver_spec (hts _ jn_AO2)
  obtain ⟨comp3, cA3, kA3, d1, -, d2, d3, d4⟩ := Cond.arrayOver_spec (hts _ jn_AO3)
  refine ⟨fun k => match k with | 0 => t0 | 1 => t1 | 2 => t2 | 3 => t3 | 4 => t4 | 10 => q0 | 11 => q1 | 12 => q2 | 13 => q3 | 14 => q4 | 15 => q5 | 16 => q6 | 20 => b | 30 => v0 | 31 => v1 | 32 => v2 | 33 => v3 | 34 => v4 | 35 => v5 | 36 => v6 | 50 => p9 | _ => 0, fun k => if k = 0 then cA0 else if k = 1 then cA1 else if k = 2 then cA2 else cA3, (dC, dI), ⟨⟨hKc, ?_⟩, ?_, ?_, ?_, ?_, va_AO.of (hts _ jn_AO2), va_AO.of (hts _ jn_AO3), hts _ jn_AO1, ?_, sZ9, sP9⟩, rfl⟩
  · intro k q hq
    match k, hq with
    | 0, hq => cases hq; exact ⟨fun n z => ⟨(fun k h => by cases h), kA0, f2, comp0, f3⟩, f1⟩
    | 1, hq => cases hq; exact ⟨fun n z => ⟨(fun k h => by cases h), kA1, g2, comp1, g3⟩, g4⟩
    | 2, hq => cases hq; exact ⟨fun n z => ⟨(fun k h => by cases h), kA2, e2, comp2, e3⟩, kA2, comp2, e2, e3, e1, e4⟩
    | 3, hq => cases hq; exact ⟨fun n z => ⟨(fun k h => by cases h), kA3, d2, comp3, d3⟩, kA3, comp3, d2, d3, d1, d4⟩
    | k + 4, hq => simp [jtys] at hq
  · intro k lz hk
    by_cases h5 : k < 5
    · match k, h5, hk with
      | 0, _, hk => cases hk; exact tT0
      | 1, _, hk => cases hk; exact tT1
      | 2, _, hk => cases hk; exact tT2
      | 3, _, hk => cases hk; exact tT3
      | 4, _, hk => cases hk; exact tT4
    · by_cases h20 : k = 20
      · subst h20
        have hk : some ((List.range L).map xs) = some lz := hk
        cases hk
        obtain ⟨scr, x1, x2, x3, x4, x5⟩ := hX
        refine ⟨scr, x1, x2, x3, by rw [List.length_map, List.length_range, x4]; exact Nat.le_refl _, by rw [List.length_map, List.length_range, x4], fun j hj => ?_, Nat.not_le.mpr hbl⟩
        rw [List.length_map, List.length_range] at hj
        rw [x5 j hj]
        simp [List.getD, hj]
      · exfalso
        unfold jcs at hk
        have e1 : Nat.blt k 5 = false := by
          cases hb9 : Nat.blt k 5 with
          | false => rfl
          | true => exact absurd (Nat.le_of_ble_eq_true hb9) h5
        have e2 : (k == 20) = false := by
          cases hb9 : (k == 20) with
          | false => rfl
          | true => exact absurd (eq_of_beq hb9) h20
        rw [e1, e2] at hk
        cases hk
  · intro k q hq
    match k, hq with
    | 0, hq => cases hq; exact tZ0
    | 1, hq => cases hq; exact tZ1
    | 2, hq => cases hq; exact tZ2
    | 3, hq => cases hq; exact tZ3
    | 4, hq => cases hq; exact tZ4
    | k + 5, hq => simp [jst] at hq
  · intro k q hq
    match k, hq with
    | 0, hq => cases hq; exact ⟨sR0, sO0⟩
    | 1, hq => cases hq; exact ⟨sR1, sO1⟩
    | 2, hq => cases hq; exact ⟨sR2, sO2⟩
    | 3, hq => cases hq; exact ⟨sR3, sO3⟩
    | 4, hq => cases hq; exact ⟨sR4, sO4⟩
    | 5, hq => cases hq; exact ⟨sR5, sO5⟩
    | 6, hq => cases hq; exact ⟨sR6, sO6⟩
    | k + 7, hq => simp [jstr] at hq
  · intro k q hq
    match k, hq with
    | 0, hq => cases hq; exact va_Nw.of rfl (hts _ jn_N0)
    | 1, hq => cases hq; exact va_Nw.of rfl (hts _ jn_N1)
    | 2, hq => cases hq; exact va_Nw.of rfl (hts _ jn_N2)
    | 3, hq => cases hq; exact va_Nw.of rfl (hts _ jn_N3)
    | 4, hq => cases hq; exact va_Nw.of rfl (hts _ jn_N4)
    | 5, hq => cases hq; exact va_Nw.of rfl (hts _ jn_N5)
    | 6, hq => cases hq; exact va_Nw.of rfl (hts _ jn_N6)
    | k + 7, hq => simp [jnest] at hq
  · intro k lz hk hl
    match k, hk, hl with
    | 0, _, hl => cases hl; exact ⟨sC0, sV0, vT0⟩
    | 1, _, hl => cases hl; exact ⟨sC1, sV1, vT1⟩
    | 2, _, hl => cases hl; exact ⟨sC2, sV2, vT2⟩
    | 3, _, hl => cases hl; exact ⟨sC3, sV3, vT3⟩
    | 4, _, hl => cases hl; exact ⟨sC4, sV4, vT4⟩
    | 5, _, hl => cases hl; exact ⟨sC5, sV5, vT5⟩
    | 6, _, hl => cases hl; exact ⟨sC6, sV6, vT6⟩
