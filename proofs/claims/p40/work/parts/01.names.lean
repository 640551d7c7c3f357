-- ===== PART A: goes FIRST, ahead of the names: the tables' words, and 'selects' of the private methods out of them =====
/-- a private method of a class that the tables say can be made, by its rows of tables_1 -/
def lw_okq (q : MethodName × Nat) : Prop := (q.1.cls ≠ "java/lang/invoke/MethodHandle" ∧ q.1.cls ≠ "java/lang/invoke/VarHandle") ∧ Cond.instantiable q.1.cls q.2 ∈ tables_1 ∧ Cond.privateMethod q.1 ∈ tables_1 ∧ Cond.instanceMethod q.1 ∈ tables_1
theorem lw_p0 : lw_okq (⟨"FoamHead", "no", "(I)I"⟩, 9) := ⟨⟨by decide +kernel, by decide +kernel⟩, List.mem_of_getElem? (i := 21) (by decide +kernel), List.mem_of_getElem? (i := 311) (by decide +kernel), List.mem_of_getElem? (i := 312) (by decide +kernel)⟩
theorem lw_p1 : lw_okq (⟨"FoamHead$Foam", "makeRing", "(IIII)V"⟩, 11) := ⟨⟨by decide +kernel, by decide +kernel⟩, List.mem_of_getElem? (i := 35) (by decide +kernel), List.mem_of_getElem? (i := 327) (by decide +kernel), List.mem_of_getElem? (i := 328) (by decide +kernel)⟩
theorem lw_p2 : lw_okq (⟨"FoamHead$World", "name", "(IIIII)V"⟩, 14) := ⟨⟨by decide +kernel, by decide +kernel⟩, List.mem_of_getElem? (i := 29) (by decide +kernel), List.mem_of_getElem? (i := 389) (by decide +kernel), List.mem_of_getElem? (i := 390) (by decide +kernel)⟩
theorem lw_p3 : lw_okq (⟨"FoamHead", "areBubbles", "(II)Z"⟩, 9) := ⟨⟨by decide +kernel, by decide +kernel⟩, List.mem_of_getElem? (i := 21) (by decide +kernel), List.mem_of_getElem? (i := 442) (by decide +kernel), List.mem_of_getElem? (i := 443) (by decide +kernel)⟩
theorem lw_p4 : lw_okq (⟨"FoamHead$Foam", "touch", "(II)Z"⟩, 11) := ⟨⟨by decide +kernel, by decide +kernel⟩, List.mem_of_getElem? (i := 35) (by decide +kernel), List.mem_of_getElem? (i := 478) (by decide +kernel), List.mem_of_getElem? (i := 479) (by decide +kernel)⟩
theorem lw_p5 : lw_okq (⟨"FoamHead$Foam", "canLoseOne", "(I)Z"⟩, 11) := ⟨⟨by decide +kernel, by decide +kernel⟩, List.mem_of_getElem? (i := 35) (by decide +kernel), List.mem_of_getElem? (i := 486) (by decide +kernel), List.mem_of_getElem? (i := 487) (by decide +kernel)⟩
theorem lw_p6 : lw_okq (⟨"FoamHead$Foam", "takeOut", "(II)V"⟩, 11) := ⟨⟨by decide +kernel, by decide +kernel⟩, List.mem_of_getElem? (i := 35) (by decide +kernel), List.mem_of_getElem? (i := 502) (by decide +kernel), List.mem_of_getElem? (i := 503) (by decide +kernel)⟩
theorem lw_p7 : lw_okq (⟨"FoamHead$Foam", "putBehind", "(III)V"⟩, 11) := ⟨⟨by decide +kernel, by decide +kernel⟩, List.mem_of_getElem? (i := 35) (by decide +kernel), List.mem_of_getElem? (i := 506) (by decide +kernel), List.mem_of_getElem? (i := 507) (by decide +kernel)⟩
theorem lw_p8 : lw_okq (⟨"FoamHead$Foam", "bury", "(I)V"⟩, 11) := ⟨⟨by decide +kernel, by decide +kernel⟩, List.mem_of_getElem? (i := 35) (by decide +kernel), List.mem_of_getElem? (i := 518) (by decide +kernel), List.mem_of_getElem? (i := 519) (by decide +kernel)⟩
theorem lw_p9 : lw_okq (⟨"FoamHead$Foam", "joinRings", "(II)I"⟩, 11) := ⟨⟨by decide +kernel, by decide +kernel⟩, List.mem_of_getElem? (i := 35) (by decide +kernel), List.mem_of_getElem? (i := 536) (by decide +kernel), List.mem_of_getElem? (i := 537) (by decide +kernel)⟩
theorem lw_p10 : lw_okq (⟨"FoamHead$Foam", "standForBoth", "(III)V"⟩, 11) := ⟨⟨by decide +kernel, by decide +kernel⟩, List.mem_of_getElem? (i := 35) (by decide +kernel), List.mem_of_getElem? (i := 540) (by decide +kernel), List.mem_of_getElem? (i := 541) (by decide +kernel)⟩
theorem lw_p11 : lw_okq (⟨"FoamHead$Reader", "either", "(I)V"⟩, 7) := ⟨⟨by decide +kernel, by decide +kernel⟩, List.mem_of_getElem? (i := 168) (by decide +kernel), List.mem_of_getElem? (i := 575) (by decide +kernel), List.mem_of_getElem? (i := 576) (by decide +kernel)⟩
theorem lw_p12 : lw_okq (⟨"FoamHead$Reader", "both", "(I)V"⟩, 7) := ⟨⟨by decide +kernel, by decide +kernel⟩, List.mem_of_getElem? (i := 168) (by decide +kernel), List.mem_of_getElem? (i := 579) (by decide +kernel), List.mem_of_getElem? (i := 580) (by decide +kernel)⟩
theorem lw_p13 : lw_okq (⟨"FoamHead$Reader", "compared", "(I)V"⟩, 7) := ⟨⟨by decide +kernel, by decide +kernel⟩, List.mem_of_getElem? (i := 168) (by decide +kernel), List.mem_of_getElem? (i := 583) (by decide +kernel), List.mem_of_getElem? (i := 584) (by decide +kernel)⟩
theorem lw_p14 : lw_okq (⟨"FoamHead$Reader", "sum", "(I)V"⟩, 7) := ⟨⟨by decide +kernel, by decide +kernel⟩, List.mem_of_getElem? (i := 168) (by decide +kernel), List.mem_of_getElem? (i := 587) (by decide +kernel), List.mem_of_getElem? (i := 588) (by decide +kernel)⟩
theorem lw_p15 : lw_okq (⟨"FoamHead$Reader", "product", "(I)V"⟩, 7) := ⟨⟨by decide +kernel, by decide +kernel⟩, List.mem_of_getElem? (i := 168) (by decide +kernel), List.mem_of_getElem? (i := 591) (by decide +kernel), List.mem_of_getElem? (i := 592) (by decide +kernel)⟩
def lw_privs_1 : List (MethodName × Nat) := [(⟨"FoamHead", "no", "(I)I"⟩, 9), (⟨"FoamHead$Foam", "makeRing", "(IIII)V"⟩, 11), (⟨"FoamHead$World", "name", "(IIIII)V"⟩, 14), (⟨"FoamHead", "areBubbles", "(II)Z"⟩, 9), (⟨"FoamHead$Foam", "touch", "(II)Z"⟩, 11), (⟨"FoamHead$Foam", "canLoseOne", "(I)Z"⟩, 11), (⟨"FoamHead$Foam", "takeOut", "(II)V"⟩, 11), (⟨"FoamHead$Foam", "putBehind", "(III)V"⟩, 11), (⟨"FoamHead$Foam", "bury", "(I)V"⟩, 11), (⟨"FoamHead$Foam", "joinRings", "(II)I"⟩, 11), (⟨"FoamHead$Foam", "standForBoth", "(III)V"⟩, 11), (⟨"FoamHead$Reader", "either", "(I)V"⟩, 7), (⟨"FoamHead$Reader", "both", "(I)V"⟩, 7), (⟨"FoamHead$Reader", "compared", "(I)V"⟩, 7), (⟨"FoamHead$Reader", "sum", "(I)V"⟩, 7), (⟨"FoamHead$Reader", "product", "(I)V"⟩, 7)]
theorem lw_r1 : ∀ q ∈ lw_privs_1, lw_okq q := List.forall_mem_cons.mpr ⟨lw_p0, List.forall_mem_cons.mpr ⟨lw_p1, List.forall_mem_cons.mpr ⟨lw_p2, List.forall_mem_cons.mpr ⟨lw_p3, List.forall_mem_cons.mpr ⟨lw_p4, List.forall_mem_cons.mpr ⟨lw_p5, List.forall_mem_cons.mpr ⟨lw_p6, List.forall_mem_cons.mpr ⟨lw_p7, List.forall_mem_cons.mpr ⟨lw_p8, List.forall_mem_cons.mpr ⟨lw_p9, List.forall_mem_cons.mpr ⟨lw_p10, List.forall_mem_cons.mpr ⟨lw_p11, List.forall_mem_cons.mpr ⟨lw_p12, List.forall_mem_cons.mpr ⟨lw_p13, List.forall_mem_cons.mpr ⟨lw_p14, List.forall_mem_cons.mpr ⟨lw_p15, fun _ h => absurd h List.not_mem_nil⟩⟩⟩⟩⟩⟩⟩⟩⟩⟩⟩⟩⟩⟩⟩⟩
theorem lw_p16 : lw_okq (⟨"FoamHead$Reader", "single", "(I)V"⟩, 7) := ⟨⟨by decide +kernel, by decide +kernel⟩, List.mem_of_getElem? (i := 168) (by decide +kernel), List.mem_of_getElem? (i := 595) (by decide +kernel), List.mem_of_getElem? (i := 596) (by decide +kernel)⟩
theorem lw_p17 : lw_okq (⟨"FoamHead$Reader", "nextIs", "(C)Z"⟩, 7) := ⟨⟨by decide +kernel, by decide +kernel⟩, List.mem_of_getElem? (i := 168) (by decide +kernel), List.mem_of_getElem? (i := 599) (by decide +kernel), List.mem_of_getElem? (i := 600) (by decide +kernel)⟩
theorem lw_p18 : lw_okq (⟨"FoamHead$Reader", "next", "()I"⟩, 7) := ⟨⟨by decide +kernel, by decide +kernel⟩, List.mem_of_getElem? (i := 168) (by decide +kernel), List.mem_of_getElem? (i := 603) (by decide +kernel), List.mem_of_getElem? (i := 604) (by decide +kernel)⟩
theorem lw_p19 : lw_okq (⟨"FoamHead$Reader", "number", "()V"⟩, 7) := ⟨⟨by decide +kernel, by decide +kernel⟩, List.mem_of_getElem? (i := 168) (by decide +kernel), List.mem_of_getElem? (i := 692) (by decide +kernel), List.mem_of_getElem? (i := 693) (by decide +kernel)⟩
theorem lw_p20 : lw_okq (⟨"FoamHead$Reader", "note", "(I)V"⟩, 7) := ⟨⟨by decide +kernel, by decide +kernel⟩, List.mem_of_getElem? (i := 168) (by decide +kernel), List.mem_of_getElem? (i := 696) (by decide +kernel), List.mem_of_getElem? (i := 697) (by decide +kernel)⟩
theorem lw_p21 : lw_okq (⟨"FoamHead$Reader", "close", "()V"⟩, 7) := ⟨⟨by decide +kernel, by decide +kernel⟩, List.mem_of_getElem? (i := 168) (by decide +kernel), List.mem_of_getElem? (i := 703) (by decide +kernel), List.mem_of_getElem? (i := 704) (by decide +kernel)⟩
theorem lw_p22 : lw_okq (⟨"FoamHead$World", "law", "(II)I"⟩, 14) := ⟨⟨by decide +kernel, by decide +kernel⟩, List.mem_of_getElem? (i := 29) (by decide +kernel), List.mem_of_getElem? (i := 730) (by decide +kernel), List.mem_of_getElem? (i := 731) (by decide +kernel)⟩
theorem lw_p23 : lw_okq (⟨"FoamHead$World", "passGas", "()V"⟩, 14) := ⟨⟨by decide +kernel, by decide +kernel⟩, List.mem_of_getElem? (i := 29) (by decide +kernel), List.mem_of_getElem? (i := 752) (by decide +kernel), List.mem_of_getElem? (i := 753) (by decide +kernel)⟩
theorem lw_p24 : lw_okq (⟨"FoamHead$World", "give", "(III)V"⟩, 14) := ⟨⟨by decide +kernel, by decide +kernel⟩, List.mem_of_getElem? (i := 29) (by decide +kernel), List.mem_of_getElem? (i := 761) (by decide +kernel), List.mem_of_getElem? (i := 762) (by decide +kernel)⟩
theorem lw_p25 : lw_okq (⟨"FoamHead$World", "runDown", "()V"⟩, 14) := ⟨⟨by decide +kernel, by decide +kernel⟩, List.mem_of_getElem? (i := 29) (by decide +kernel), List.mem_of_getElem? (i := 767) (by decide +kernel), List.mem_of_getElem? (i := 768) (by decide +kernel)⟩
theorem lw_p26 : lw_okq (⟨"FoamHead$World", "giveWater", "(I)V"⟩, 14) := ⟨⟨by decide +kernel, by decide +kernel⟩, List.mem_of_getElem? (i := 29) (by decide +kernel), List.mem_of_getElem? (i := 772) (by decide +kernel), List.mem_of_getElem? (i := 773) (by decide +kernel)⟩
theorem lw_p27 : lw_okq (⟨"FoamHead$World", "bitsBelow", "(I)I"⟩, 14) := ⟨⟨by decide +kernel, by decide +kernel⟩, List.mem_of_getElem? (i := 29) (by decide +kernel), List.mem_of_getElem? (i := 777) (by decide +kernel), List.mem_of_getElem? (i := 778) (by decide +kernel)⟩
theorem lw_p28 : lw_okq (⟨"FoamHead$World", "drain", "(I)V"⟩, 14) := ⟨⟨by decide +kernel, by decide +kernel⟩, List.mem_of_getElem? (i := 29) (by decide +kernel), List.mem_of_getElem? (i := 787) (by decide +kernel), List.mem_of_getElem? (i := 788) (by decide +kernel)⟩
theorem lw_p29 : lw_okq (⟨"FoamHead$World", "burstDry", "()V"⟩, 14) := ⟨⟨by decide +kernel, by decide +kernel⟩, List.mem_of_getElem? (i := 29) (by decide +kernel), List.mem_of_getElem? (i := 792) (by decide +kernel), List.mem_of_getElem? (i := 793) (by decide +kernel)⟩
theorem lw_p30 : lw_okq (⟨"FoamHead$World", "burstOf", "(II)I"⟩, 14) := ⟨⟨by decide +kernel, by decide +kernel⟩, List.mem_of_getElem? (i := 29) (by decide +kernel), List.mem_of_getElem? (i := 796) (by decide +kernel), List.mem_of_getElem? (i := 797) (by decide +kernel)⟩
theorem lw_p31 : lw_okq (⟨"FoamHead$World", "drawn", "()Z"⟩, 14) := ⟨⟨by decide +kernel, by decide +kernel⟩, List.mem_of_getElem? (i := 29) (by decide +kernel), List.mem_of_getElem? (i := 802) (by decide +kernel), List.mem_of_getElem? (i := 803) (by decide +kernel)⟩
def lw_privs_2 : List (MethodName × Nat) := [(⟨"FoamHead$Reader", "single", "(I)V"⟩, 7), (⟨"FoamHead$Reader", "nextIs", "(C)Z"⟩, 7), (⟨"FoamHead$Reader", "next", "()I"⟩, 7), (⟨"FoamHead$Reader", "number", "()V"⟩, 7), (⟨"FoamHead$Reader", "note", "(I)V"⟩, 7), (⟨"FoamHead$Reader", "close", "()V"⟩, 7), (⟨"FoamHead$World", "law", "(II)I"⟩, 14), (⟨"FoamHead$World", "passGas", "()V"⟩, 14), (⟨"FoamHead$World", "give", "(III)V"⟩, 14), (⟨"FoamHead$World", "runDown", "()V"⟩, 14), (⟨"FoamHead$World", "giveWater", "(I)V"⟩, 14), (⟨"FoamHead$World", "bitsBelow", "(I)I"⟩, 14), (⟨"FoamHead$World", "drain", "(I)V"⟩, 14), (⟨"FoamHead$World", "burstDry", "()V"⟩, 14), (⟨"FoamHead$World", "burstOf", "(II)I"⟩, 14), (⟨"FoamHead$World", "drawn", "()Z"⟩, 14)]
theorem lw_r2 : ∀ q ∈ lw_privs_2, lw_okq q := List.forall_mem_cons.mpr ⟨lw_p16, List.forall_mem_cons.mpr ⟨lw_p17, List.forall_mem_cons.mpr ⟨lw_p18, List.forall_mem_cons.mpr ⟨lw_p19, List.forall_mem_cons.mpr ⟨lw_p20, List.forall_mem_cons.mpr ⟨lw_p21, List.forall_mem_cons.mpr ⟨lw_p22, List.forall_mem_cons.mpr ⟨lw_p23, List.forall_mem_cons.mpr ⟨lw_p24, List.forall_mem_cons.mpr ⟨lw_p25, List.forall_mem_cons.mpr ⟨lw_p26, List.forall_mem_cons.mpr ⟨lw_p27, List.forall_mem_cons.mpr ⟨lw_p28, List.forall_mem_cons.mpr ⟨lw_p29, List.forall_mem_cons.mpr ⟨lw_p30, List.forall_mem_cons.mpr ⟨lw_p31, fun _ h => absurd h List.not_mem_nil⟩⟩⟩⟩⟩⟩⟩⟩⟩⟩⟩⟩⟩⟩⟩⟩
theorem lw_p32 : lw_okq (⟨"FoamHead$World", "loseEmpty", "()V"⟩, 14) := ⟨⟨by decide +kernel, by decide +kernel⟩, List.mem_of_getElem? (i := 29) (by decide +kernel), List.mem_of_getElem? (i := 809) (by decide +kernel), List.mem_of_getElem? (i := 810) (by decide +kernel)⟩
theorem lw_p33 : lw_okq (⟨"FoamHead$World", "turnFirst", "(I)V"⟩, 14) := ⟨⟨by decide +kernel, by decide +kernel⟩, List.mem_of_getElem? (i := 29) (by decide +kernel), List.mem_of_getElem? (i := 815) (by decide +kernel), List.mem_of_getElem? (i := 816) (by decide +kernel)⟩
theorem lw_p34 : lw_okq (⟨"FoamHead$Search", "besideAny", "(I)I"⟩, 4) := ⟨⟨by decide +kernel, by decide +kernel⟩, List.mem_of_getElem? (i := 201) (by decide +kernel), List.mem_of_getElem? (i := 886) (by decide +kernel), List.mem_of_getElem? (i := 887) (by decide +kernel)⟩
theorem lw_p35 : lw_okq (⟨"FoamHead$Voices", "say", "(IIII)I"⟩, 8) := ⟨⟨by decide +kernel, by decide +kernel⟩, List.mem_of_getElem? (i := 221) (by decide +kernel), List.mem_of_getElem? (i := 930) (by decide +kernel), List.mem_of_getElem? (i := 931) (by decide +kernel)⟩
theorem lw_p36 : lw_okq (⟨"FoamHead$Voices", "speak", "(IIII)I"⟩, 8) := ⟨⟨by decide +kernel, by decide +kernel⟩, List.mem_of_getElem? (i := 221) (by decide +kernel), List.mem_of_getElem? (i := 940) (by decide +kernel), List.mem_of_getElem? (i := 941) (by decide +kernel)⟩
theorem lw_p37 : lw_okq (⟨"FoamHead$Voices", "parting", "(I)I"⟩, 8) := ⟨⟨by decide +kernel, by decide +kernel⟩, List.mem_of_getElem? (i := 221) (by decide +kernel), List.mem_of_getElem? (i := 944) (by decide +kernel), List.mem_of_getElem? (i := 945) (by decide +kernel)⟩
theorem lw_p38 : lw_okq (⟨"FoamHeadModel", "finding", "(I)I"⟩, 26) := ⟨⟨by decide +kernel, by decide +kernel⟩, List.mem_of_getElem? (i := 1020) (by decide +kernel), List.mem_of_getElem? (i := 1119) (by decide +kernel), List.mem_of_getElem? (i := 1120) (by decide +kernel)⟩
theorem lw_p39 : lw_okq (⟨"FoamHeadModel", "tells", "(III)V"⟩, 26) := ⟨⟨by decide +kernel, by decide +kernel⟩, List.mem_of_getElem? (i := 1020) (by decide +kernel), List.mem_of_getElem? (i := 1124) (by decide +kernel), List.mem_of_getElem? (i := 1125) (by decide +kernel)⟩
theorem lw_p40 : lw_okq (⟨"FoamHeadModel", "grows", "(II)V"⟩, 26) := ⟨⟨by decide +kernel, by decide +kernel⟩, List.mem_of_getElem? (i := 1020) (by decide +kernel), List.mem_of_getElem? (i := 1131) (by decide +kernel), List.mem_of_getElem? (i := 1132) (by decide +kernel)⟩
theorem lw_p41 : lw_okq (⟨"FoamHeadModel", "sidesOf", "(I)I"⟩, 26) := ⟨⟨by decide +kernel, by decide +kernel⟩, List.mem_of_getElem? (i := 1020) (by decide +kernel), List.mem_of_getElem? (i := 1135) (by decide +kernel), List.mem_of_getElem? (i := 1136) (by decide +kernel)⟩
theorem lw_p42 : lw_okq (⟨"FoamHeadModel", "of", "(II)I"⟩, 26) := ⟨⟨by decide +kernel, by decide +kernel⟩, List.mem_of_getElem? (i := 1020) (by decide +kernel), List.mem_of_getElem? (i := 1139) (by decide +kernel), List.mem_of_getElem? (i := 1140) (by decide +kernel)⟩
theorem lw_p43 : lw_okq (⟨"FoamHeadModel", "is", "(I)Z"⟩, 26) := ⟨⟨by decide +kernel, by decide +kernel⟩, List.mem_of_getElem? (i := 1020) (by decide +kernel), List.mem_of_getElem? (i := 1147) (by decide +kernel), List.mem_of_getElem? (i := 1148) (by decide +kernel)⟩
theorem lw_p44 : lw_okq (⟨"FoamHeadModel", "glassesOf", "(I)I"⟩, 26) := ⟨⟨by decide +kernel, by decide +kernel⟩, List.mem_of_getElem? (i := 1020) (by decide +kernel), List.mem_of_getElem? (i := 1151) (by decide +kernel), List.mem_of_getElem? (i := 1152) (by decide +kernel)⟩
theorem lw_p45 : lw_okq (⟨"FoamHeadModel", "dryOf", "(I)I"⟩, 26) := ⟨⟨by decide +kernel, by decide +kernel⟩, List.mem_of_getElem? (i := 1020) (by decide +kernel), List.mem_of_getElem? (i := 1155) (by decide +kernel), List.mem_of_getElem? (i := 1156) (by decide +kernel)⟩
theorem lw_p46 : lw_okq (⟨"FoamHeadModel", "letsOf", "(I)I"⟩, 26) := ⟨⟨by decide +kernel, by decide +kernel⟩, List.mem_of_getElem? (i := 1020) (by decide +kernel), List.mem_of_getElem? (i := 1159) (by decide +kernel), List.mem_of_getElem? (i := 1160) (by decide +kernel)⟩
theorem lw_p47 : lw_okq (⟨"FoamHeadModel", "markOf", "(I)I"⟩, 26) := ⟨⟨by decide +kernel, by decide +kernel⟩, List.mem_of_getElem? (i := 1020) (by decide +kernel), List.mem_of_getElem? (i := 1163) (by decide +kernel), List.mem_of_getElem? (i := 1164) (by decide +kernel)⟩
def lw_privs_3 : List (MethodName × Nat) := [(⟨"FoamHead$World", "loseEmpty", "()V"⟩, 14), (⟨"FoamHead$World", "turnFirst", "(I)V"⟩, 14), (⟨"FoamHead$Search", "besideAny", "(I)I"⟩, 4), (⟨"FoamHead$Voices", "say", "(IIII)I"⟩, 8), (⟨"FoamHead$Voices", "speak", "(IIII)I"⟩, 8), (⟨"FoamHead$Voices", "parting", "(I)I"⟩, 8), (⟨"FoamHeadModel", "finding", "(I)I"⟩, 26), (⟨"FoamHeadModel", "tells", "(III)V"⟩, 26), (⟨"FoamHeadModel", "grows", "(II)V"⟩, 26), (⟨"FoamHeadModel", "sidesOf", "(I)I"⟩, 26), (⟨"FoamHeadModel", "of", "(II)I"⟩, 26), (⟨"FoamHeadModel", "is", "(I)Z"⟩, 26), (⟨"FoamHeadModel", "glassesOf", "(I)I"⟩, 26), (⟨"FoamHeadModel", "dryOf", "(I)I"⟩, 26), (⟨"FoamHeadModel", "letsOf", "(I)I"⟩, 26), (⟨"FoamHeadModel", "markOf", "(I)I"⟩, 26)]
theorem lw_r3 : ∀ q ∈ lw_privs_3, lw_okq q := List.forall_mem_cons.mpr ⟨lw_p32, List.forall_mem_cons.mpr ⟨lw_p33, List.forall_mem_cons.mpr ⟨lw_p34, List.forall_mem_cons.mpr ⟨lw_p35, List.forall_mem_cons.mpr ⟨lw_p36, List.forall_mem_cons.mpr ⟨lw_p37, List.forall_mem_cons.mpr ⟨lw_p38, List.forall_mem_cons.mpr ⟨lw_p39, List.forall_mem_cons.mpr ⟨lw_p40, List.forall_mem_cons.mpr ⟨lw_p41, List.forall_mem_cons.mpr ⟨lw_p42, List.forall_mem_cons.mpr ⟨lw_p43, List.forall_mem_cons.mpr ⟨lw_p44, List.forall_mem_cons.mpr ⟨lw_p45, List.forall_mem_cons.mpr ⟨lw_p46, List.forall_mem_cons.mpr ⟨lw_p47, fun _ h => absurd h List.not_mem_nil⟩⟩⟩⟩⟩⟩⟩⟩⟩⟩⟩⟩⟩⟩⟩⟩
theorem lw_p48 : lw_okq (⟨"FoamHeadModel", "given", "(IIIIII)I"⟩, 26) := ⟨⟨by decide +kernel, by decide +kernel⟩, List.mem_of_getElem? (i := 1020) (by decide +kernel), List.mem_of_getElem? (i := 1167) (by decide +kernel), List.mem_of_getElem? (i := 1168) (by decide +kernel)⟩
theorem lw_p49 : lw_okq (⟨"FoamHeadModel", "hasText", "(I)Z"⟩, 26) := ⟨⟨by decide +kernel, by decide +kernel⟩, List.mem_of_getElem? (i := 1020) (by decide +kernel), List.mem_of_getElem? (i := 1171) (by decide +kernel), List.mem_of_getElem? (i := 1172) (by decide +kernel)⟩
theorem lw_p50 : lw_okq (⟨"FoamHeadModel", "worked", "(I)I"⟩, 26) := ⟨⟨by decide +kernel, by decide +kernel⟩, List.mem_of_getElem? (i := 1020) (by decide +kernel), List.mem_of_getElem? (i := 1175) (by decide +kernel), List.mem_of_getElem? (i := 1176) (by decide +kernel)⟩
theorem lw_p51 : lw_okq (⟨"FoamHeadModel", "comes", "(II)I"⟩, 26) := ⟨⟨by decide +kernel, by decide +kernel⟩, List.mem_of_getElem? (i := 1020) (by decide +kernel), List.mem_of_getElem? (i := 1194) (by decide +kernel), List.mem_of_getElem? (i := 1195) (by decide +kernel)⟩
theorem lw_p52 : lw_okq (⟨"FoamHeadModel", "leastIn", "(I)I"⟩, 26) := ⟨⟨by decide +kernel, by decide +kernel⟩, List.mem_of_getElem? (i := 1020) (by decide +kernel), List.mem_of_getElem? (i := 1206) (by decide +kernel), List.mem_of_getElem? (i := 1207) (by decide +kernel)⟩
theorem lw_p53 : lw_okq (⟨"FoamHeadModel", "at", "(II)I"⟩, 26) := ⟨⟨by decide +kernel, by decide +kernel⟩, List.mem_of_getElem? (i := 1020) (by decide +kernel), List.mem_of_getElem? (i := 1210) (by decide +kernel), List.mem_of_getElem? (i := 1211) (by decide +kernel)⟩
theorem lw_p54 : lw_okq (⟨"FoamHeadModel", "areTwo", "(II)Z"⟩, 26) := ⟨⟨by decide +kernel, by decide +kernel⟩, List.mem_of_getElem? (i := 1020) (by decide +kernel), List.mem_of_getElem? (i := 1219) (by decide +kernel), List.mem_of_getElem? (i := 1220) (by decide +kernel)⟩
theorem lw_p55 : lw_okq (⟨"FoamHeadModel", "isWall", "(II)Z"⟩, 26) := ⟨⟨by decide +kernel, by decide +kernel⟩, List.mem_of_getElem? (i := 1020) (by decide +kernel), List.mem_of_getElem? (i := 1223) (by decide +kernel), List.mem_of_getElem? (i := 1224) (by decide +kernel)⟩
theorem lw_p56 : lw_okq (⟨"FoamHeadModel", "placeIn", "(II)I"⟩, 26) := ⟨⟨by decide +kernel, by decide +kernel⟩, List.mem_of_getElem? (i := 1020) (by decide +kernel), List.mem_of_getElem? (i := 1227) (by decide +kernel), List.mem_of_getElem? (i := 1228) (by decide +kernel)⟩
theorem lw_p57 : lw_okq (⟨"FoamHeadModel", "ahead", "(II)I"⟩, 26) := ⟨⟨by decide +kernel, by decide +kernel⟩, List.mem_of_getElem? (i := 1020) (by decide +kernel), List.mem_of_getElem? (i := 1236) (by decide +kernel), List.mem_of_getElem? (i := 1237) (by decide +kernel)⟩
theorem lw_p58 : lw_okq (⟨"FoamHeadModel", "behind", "(II)I"⟩, 26) := ⟨⟨by decide +kernel, by decide +kernel⟩, List.mem_of_getElem? (i := 1020) (by decide +kernel), List.mem_of_getElem? (i := 1240) (by decide +kernel), List.mem_of_getElem? (i := 1241) (by decide +kernel)⟩
theorem lw_p59 : lw_okq (⟨"FoamHeadModel", "canTurn", "(II)Z"⟩, 26) := ⟨⟨by decide +kernel, by decide +kernel⟩, List.mem_of_getElem? (i := 1020) (by decide +kernel), List.mem_of_getElem? (i := 1248) (by decide +kernel), List.mem_of_getElem? (i := 1249) (by decide +kernel)⟩
theorem lw_p60 : lw_okq (⟨"FoamHeadModel", "canBurst", "(II)Z"⟩, 26) := ⟨⟨by decide +kernel, by decide +kernel⟩, List.mem_of_getElem? (i := 1020) (by decide +kernel), List.mem_of_getElem? (i := 1252) (by decide +kernel), List.mem_of_getElem? (i := 1253) (by decide +kernel)⟩
theorem lw_p61 : lw_okq (⟨"FoamHeadModel", "canVanish", "(I)Z"⟩, 26) := ⟨⟨by decide +kernel, by decide +kernel⟩, List.mem_of_getElem? (i := 1020) (by decide +kernel), List.mem_of_getElem? (i := 1256) (by decide +kernel), List.mem_of_getElem? (i := 1257) (by decide +kernel)⟩
theorem lw_p62 : lw_okq (⟨"FoamHeadModel", "turns", "(II)V"⟩, 26) := ⟨⟨by decide +kernel, by decide +kernel⟩, List.mem_of_getElem? (i := 1020) (by decide +kernel), List.mem_of_getElem? (i := 1264) (by decide +kernel), List.mem_of_getElem? (i := 1265) (by decide +kernel)⟩
theorem lw_p63 : lw_okq (⟨"FoamHeadModel", "shuts", "(II)V"⟩, 26) := ⟨⟨by decide +kernel, by decide +kernel⟩, List.mem_of_getElem? (i := 1020) (by decide +kernel), List.mem_of_getElem? (i := 1268) (by decide +kernel), List.mem_of_getElem? (i := 1269) (by decide +kernel)⟩
def lw_privs_4 : List (MethodName × Nat) := [(⟨"FoamHeadModel", "given", "(IIIIII)I"⟩, 26), (⟨"FoamHeadModel", "hasText", "(I)Z"⟩, 26), (⟨"FoamHeadModel", "worked", "(I)I"⟩, 26), (⟨"FoamHeadModel", "comes", "(II)I"⟩, 26), (⟨"FoamHeadModel", "leastIn", "(I)I"⟩, 26), (⟨"FoamHeadModel", "at", "(II)I"⟩, 26), (⟨"FoamHeadModel", "areTwo", "(II)Z"⟩, 26), (⟨"FoamHeadModel", "isWall", "(II)Z"⟩, 26), (⟨"FoamHeadModel", "placeIn", "(II)I"⟩, 26), (⟨"FoamHeadModel", "ahead", "(II)I"⟩, 26), (⟨"FoamHeadModel", "behind", "(II)I"⟩, 26), (⟨"FoamHeadModel", "canTurn", "(II)Z"⟩, 26), (⟨"FoamHeadModel", "canBurst", "(II)Z"⟩, 26), (⟨"FoamHeadModel", "canVanish", "(I)Z"⟩, 26), (⟨"FoamHeadModel", "turns", "(II)V"⟩, 26), (⟨"FoamHeadModel", "shuts", "(II)V"⟩, 26)]
theorem lw_r4 : ∀ q ∈ lw_privs_4, lw_okq q := List.forall_mem_cons.mpr ⟨lw_p48, List.forall_mem_cons.mpr ⟨lw_p49, List.forall_mem_cons.mpr ⟨lw_p50, List.forall_mem_cons.mpr ⟨lw_p51, List.forall_mem_cons.mpr ⟨lw_p52, List.forall_mem_cons.mpr ⟨lw_p53, List.forall_mem_cons.mpr ⟨lw_p54, List.forall_mem_cons.mpr ⟨lw_p55, List.forall_mem_cons.mpr ⟨lw_p56, List.forall_mem_cons.mpr ⟨lw_p57, List.forall_mem_cons.mpr ⟨lw_p58, List.forall_mem_cons.mpr ⟨lw_p59, List.forall_mem_cons.mpr ⟨lw_p60, List.forall_mem_cons.mpr ⟨lw_p61, List.forall_mem_cons.mpr ⟨lw_p62, List.forall_mem_cons.mpr ⟨lw_p63, fun _ h => absurd h List.not_mem_nil⟩⟩⟩⟩⟩⟩⟩⟩⟩⟩⟩⟩⟩⟩⟩⟩
theorem lw_p64 : lw_okq (⟨"FoamHeadModel", "opens", "(III)V"⟩, 26) := ⟨⟨by decide +kernel, by decide +kernel⟩, List.mem_of_getElem? (i := 1020) (by decide +kernel), List.mem_of_getElem? (i := 1272) (by decide +kernel), List.mem_of_getElem? (i := 1273) (by decide +kernel)⟩
theorem lw_p65 : lw_okq (⟨"FoamHeadModel", "vanishes", "(I)V"⟩, 26) := ⟨⟨by decide +kernel, by decide +kernel⟩, List.mem_of_getElem? (i := 1020) (by decide +kernel), List.mem_of_getElem? (i := 1280) (by decide +kernel), List.mem_of_getElem? (i := 1281) (by decide +kernel)⟩
theorem lw_p66 : lw_okq (⟨"FoamHeadModel", "many", "()I"⟩, 26) := ⟨⟨by decide +kernel, by decide +kernel⟩, List.mem_of_getElem? (i := 1020) (by decide +kernel), List.mem_of_getElem? (i := 1284) (by decide +kernel), List.mem_of_getElem? (i := 1285) (by decide +kernel)⟩
theorem lw_p67 : lw_okq (⟨"FoamHeadModel", "bursts", "(II)I"⟩, 26) := ⟨⟨by decide +kernel, by decide +kernel⟩, List.mem_of_getElem? (i := 1020) (by decide +kernel), List.mem_of_getElem? (i := 1292) (by decide +kernel), List.mem_of_getElem? (i := 1293) (by decide +kernel)⟩
theorem lw_p68 : lw_okq (⟨"FoamHeadModel", "either", "()V"⟩, 26) := ⟨⟨by decide +kernel, by decide +kernel⟩, List.mem_of_getElem? (i := 1020) (by decide +kernel), List.mem_of_getElem? (i := 1308) (by decide +kernel), List.mem_of_getElem? (i := 1309) (by decide +kernel)⟩
theorem lw_p69 : lw_okq (⟨"FoamHeadModel", "both", "()V"⟩, 26) := ⟨⟨by decide +kernel, by decide +kernel⟩, List.mem_of_getElem? (i := 1020) (by decide +kernel), List.mem_of_getElem? (i := 1312) (by decide +kernel), List.mem_of_getElem? (i := 1313) (by decide +kernel)⟩
theorem lw_p70 : lw_okq (⟨"FoamHeadModel", "compared", "()V"⟩, 26) := ⟨⟨by decide +kernel, by decide +kernel⟩, List.mem_of_getElem? (i := 1020) (by decide +kernel), List.mem_of_getElem? (i := 1316) (by decide +kernel), List.mem_of_getElem? (i := 1317) (by decide +kernel)⟩
theorem lw_p71 : lw_okq (⟨"FoamHeadModel", "sum", "()V"⟩, 26) := ⟨⟨by decide +kernel, by decide +kernel⟩, List.mem_of_getElem? (i := 1020) (by decide +kernel), List.mem_of_getElem? (i := 1320) (by decide +kernel), List.mem_of_getElem? (i := 1321) (by decide +kernel)⟩
theorem lw_p72 : lw_okq (⟨"FoamHeadModel", "product", "()V"⟩, 26) := ⟨⟨by decide +kernel, by decide +kernel⟩, List.mem_of_getElem? (i := 1020) (by decide +kernel), List.mem_of_getElem? (i := 1324) (by decide +kernel), List.mem_of_getElem? (i := 1325) (by decide +kernel)⟩
theorem lw_p73 : lw_okq (⟨"FoamHeadModel", "one", "()V"⟩, 26) := ⟨⟨by decide +kernel, by decide +kernel⟩, List.mem_of_getElem? (i := 1020) (by decide +kernel), List.mem_of_getElem? (i := 1328) (by decide +kernel), List.mem_of_getElem? (i := 1329) (by decide +kernel)⟩
theorem lw_p74 : lw_okq (⟨"FoamHeadModel", "here", "()I"⟩, 26) := ⟨⟨by decide +kernel, by decide +kernel⟩, List.mem_of_getElem? (i := 1020) (by decide +kernel), List.mem_of_getElem? (i := 1332) (by decide +kernel), List.mem_of_getElem? (i := 1333) (by decide +kernel)⟩
theorem lw_p75 : lw_okq (⟨"FoamHeadModel", "codes", "(I)V"⟩, 26) := ⟨⟨by decide +kernel, by decide +kernel⟩, List.mem_of_getElem? (i := 1020) (by decide +kernel), List.mem_of_getElem? (i := 1336) (by decide +kernel), List.mem_of_getElem? (i := 1337) (by decide +kernel)⟩
theorem lw_p76 : lw_okq (⟨"FoamHeadModel", "takes", "(I)Z"⟩, 26) := ⟨⟨by decide +kernel, by decide +kernel⟩, List.mem_of_getElem? (i := 1020) (by decide +kernel), List.mem_of_getElem? (i := 1340) (by decide +kernel), List.mem_of_getElem? (i := 1341) (by decide +kernel)⟩
theorem lw_p77 : lw_okq (⟨"FoamHeadModel", "nameOf", "(I)I"⟩, 26) := ⟨⟨by decide +kernel, by decide +kernel⟩, List.mem_of_getElem? (i := 1020) (by decide +kernel), List.mem_of_getElem? (i := 1344) (by decide +kernel), List.mem_of_getElem? (i := 1345) (by decide +kernel)⟩
theorem lw_p78 : lw_okq (⟨"FoamHeadModel", "passesBy", "(II)I"⟩, 26) := ⟨⟨by decide +kernel, by decide +kernel⟩, List.mem_of_getElem? (i := 1020) (by decide +kernel), List.mem_of_getElem? (i := 1381) (by decide +kernel), List.mem_of_getElem? (i := 1382) (by decide +kernel)⟩
theorem lw_p79 : lw_okq (⟨"FoamHeadModel", "ticks", "()V"⟩, 26) := ⟨⟨by decide +kernel, by decide +kernel⟩, List.mem_of_getElem? (i := 1020) (by decide +kernel), List.mem_of_getElem? (i := 1394) (by decide +kernel), List.mem_of_getElem? (i := 1395) (by decide +kernel)⟩
def lw_privs_5 : List (MethodName × Nat) := [(⟨"FoamHeadModel", "opens", "(III)V"⟩, 26), (⟨"FoamHeadModel", "vanishes", "(I)V"⟩, 26), (⟨"FoamHeadModel", "many", "()I"⟩, 26), (⟨"FoamHeadModel", "bursts", "(II)I"⟩, 26), (⟨"FoamHeadModel", "either", "()V"⟩, 26), (⟨"FoamHeadModel", "both", "()V"⟩, 26), (⟨"FoamHeadModel", "compared", "()V"⟩, 26), (⟨"FoamHeadModel", "sum", "()V"⟩, 26), (⟨"FoamHeadModel", "product", "()V"⟩, 26), (⟨"FoamHeadModel", "one", "()V"⟩, 26), (⟨"FoamHeadModel", "here", "()I"⟩, 26), (⟨"FoamHeadModel", "codes", "(I)V"⟩, 26), (⟨"FoamHeadModel", "takes", "(I)Z"⟩, 26), (⟨"FoamHeadModel", "nameOf", "(I)I"⟩, 26), (⟨"FoamHeadModel", "passesBy", "(II)I"⟩, 26), (⟨"FoamHeadModel", "ticks", "()V"⟩, 26)]
theorem lw_r5 : ∀ q ∈ lw_privs_5, lw_okq q := List.forall_mem_cons.mpr ⟨lw_p64, List.forall_mem_cons.mpr ⟨lw_p65, List.forall_mem_cons.mpr ⟨lw_p66, List.forall_mem_cons.mpr ⟨lw_p67, List.forall_mem_cons.mpr ⟨lw_p68, List.forall_mem_cons.mpr ⟨lw_p69, List.forall_mem_cons.mpr ⟨lw_p70, List.forall_mem_cons.mpr ⟨lw_p71, List.forall_mem_cons.mpr ⟨lw_p72, List.forall_mem_cons.mpr ⟨lw_p73, List.forall_mem_cons.mpr ⟨lw_p74, List.forall_mem_cons.mpr ⟨lw_p75, List.forall_mem_cons.mpr ⟨lw_p76, List.forall_mem_cons.mpr ⟨lw_p77, List.forall_mem_cons.mpr ⟨lw_p78, List.forall_mem_cons.mpr ⟨lw_p79, fun _ h => absurd h List.not_mem_nil⟩⟩⟩⟩⟩⟩⟩⟩⟩⟩⟩⟩⟩⟩⟩⟩
theorem lw_p80 : lw_okq (⟨"FoamHeadModel", "passesAll", "()V"⟩, 26) := ⟨⟨by decide +kernel, by decide +kernel⟩, List.mem_of_getElem? (i := 1020) (by decide +kernel), List.mem_of_getElem? (i := 1398) (by decide +kernel), List.mem_of_getElem? (i := 1399) (by decide +kernel)⟩
theorem lw_p81 : lw_okq (⟨"FoamHeadModel", "gives", "(III)V"⟩, 26) := ⟨⟨by decide +kernel, by decide +kernel⟩, List.mem_of_getElem? (i := 1020) (by decide +kernel), List.mem_of_getElem? (i := 1403) (by decide +kernel), List.mem_of_getElem? (i := 1404) (by decide +kernel)⟩
theorem lw_p82 : lw_okq (⟨"FoamHeadModel", "runs", "()V"⟩, 26) := ⟨⟨by decide +kernel, by decide +kernel⟩, List.mem_of_getElem? (i := 1020) (by decide +kernel), List.mem_of_getElem? (i := 1407) (by decide +kernel), List.mem_of_getElem? (i := 1408) (by decide +kernel)⟩
theorem lw_p83 : lw_okq (⟨"FoamHeadModel", "isLower", "(II)Z"⟩, 26) := ⟨⟨by decide +kernel, by decide +kernel⟩, List.mem_of_getElem? (i := 1020) (by decide +kernel), List.mem_of_getElem? (i := 1411) (by decide +kernel), List.mem_of_getElem? (i := 1412) (by decide +kernel)⟩
theorem lw_p84 : lw_okq (⟨"FoamHeadModel", "drains", "(I)V"⟩, 26) := ⟨⟨by decide +kernel, by decide +kernel⟩, List.mem_of_getElem? (i := 1020) (by decide +kernel), List.mem_of_getElem? (i := 1415) (by decide +kernel), List.mem_of_getElem? (i := 1416) (by decide +kernel)⟩
theorem lw_p85 : lw_okq (⟨"FoamHeadModel", "burstsAll", "()V"⟩, 26) := ⟨⟨by decide +kernel, by decide +kernel⟩, List.mem_of_getElem? (i := 1020) (by decide +kernel), List.mem_of_getElem? (i := 1420) (by decide +kernel), List.mem_of_getElem? (i := 1421) (by decide +kernel)⟩
theorem lw_p86 : lw_okq (⟨"FoamHeadModel", "isDry", "(II)Z"⟩, 26) := ⟨⟨by decide +kernel, by decide +kernel⟩, List.mem_of_getElem? (i := 1020) (by decide +kernel), List.mem_of_getElem? (i := 1424) (by decide +kernel), List.mem_of_getElem? (i := 1425) (by decide +kernel)⟩
theorem lw_p87 : lw_okq (⟨"FoamHeadModel", "drawn", "(I)I"⟩, 26) := ⟨⟨by decide +kernel, by decide +kernel⟩, List.mem_of_getElem? (i := 1020) (by decide +kernel), List.mem_of_getElem? (i := 1428) (by decide +kernel), List.mem_of_getElem? (i := 1429) (by decide +kernel)⟩
theorem lw_p88 : lw_okq (⟨"FoamHeadModel", "turnsFirst", "(I)V"⟩, 26) := ⟨⟨by decide +kernel, by decide +kernel⟩, List.mem_of_getElem? (i := 1020) (by decide +kernel), List.mem_of_getElem? (i := 1433) (by decide +kernel), List.mem_of_getElem? (i := 1434) (by decide +kernel)⟩
theorem lw_p89 : lw_okq (⟨"FoamHeadModel", "besides", "(I)I"⟩, 26) := ⟨⟨by decide +kernel, by decide +kernel⟩, List.mem_of_getElem? (i := 1020) (by decide +kernel), List.mem_of_getElem? (i := 1475) (by decide +kernel), List.mem_of_getElem? (i := 1476) (by decide +kernel)⟩
theorem lw_p90 : lw_okq (⟨"FoamHeadModel", "coloured", "(II)Z"⟩, 26) := ⟨⟨by decide +kernel, by decide +kernel⟩, List.mem_of_getElem? (i := 1020) (by decide +kernel), List.mem_of_getElem? (i := 1483) (by decide +kernel), List.mem_of_getElem? (i := 1484) (by decide +kernel)⟩
theorem lw_p91 : lw_okq (⟨"FoamHeadModel", "mayBe", "(II)Z"⟩, 26) := ⟨⟨by decide +kernel, by decide +kernel⟩, List.mem_of_getElem? (i := 1020) (by decide +kernel), List.mem_of_getElem? (i := 1487) (by decide +kernel), List.mem_of_getElem? (i := 1488) (by decide +kernel)⟩
theorem lw_p92 : lw_okq (⟨"FoamHeadModel", "there", "()I"⟩, 26) := ⟨⟨by decide +kernel, by decide +kernel⟩, List.mem_of_getElem? (i := 1020) (by decide +kernel), List.mem_of_getElem? (i := 1495) (by decide +kernel), List.mem_of_getElem? (i := 1496) (by decide +kernel)⟩
theorem lw_p93 : lw_okq (⟨"FoamHeadModel", "voiced", "(II)I"⟩, 26) := ⟨⟨by decide +kernel, by decide +kernel⟩, List.mem_of_getElem? (i := 1020) (by decide +kernel), List.mem_of_getElem? (i := 1510) (by decide +kernel), List.mem_of_getElem? (i := 1511) (by decide +kernel)⟩
theorem lw_p94 : lw_okq (⟨"FoamHeadModel", "bodyFrom", "(III)I"⟩, 26) := ⟨⟨by decide +kernel, by decide +kernel⟩, List.mem_of_getElem? (i := 1020) (by decide +kernel), List.mem_of_getElem? (i := 1514) (by decide +kernel), List.mem_of_getElem? (i := 1515) (by decide +kernel)⟩
theorem lw_p95 : lw_okq (⟨"FoamHeadModel", "body", "(III)I"⟩, 26) := ⟨⟨by decide +kernel, by decide +kernel⟩, List.mem_of_getElem? (i := 1020) (by decide +kernel), List.mem_of_getElem? (i := 1521) (by decide +kernel), List.mem_of_getElem? (i := 1522) (by decide +kernel)⟩
def lw_privs_6 : List (MethodName × Nat) := [(⟨"FoamHeadModel", "passesAll", "()V"⟩, 26), (⟨"FoamHeadModel", "gives", "(III)V"⟩, 26), (⟨"FoamHeadModel", "runs", "()V"⟩, 26), (⟨"FoamHeadModel", "isLower", "(II)Z"⟩, 26), (⟨"FoamHeadModel", "drains", "(I)V"⟩, 26), (⟨"FoamHeadModel", "burstsAll", "()V"⟩, 26), (⟨"FoamHeadModel", "isDry", "(II)Z"⟩, 26), (⟨"FoamHeadModel", "drawn", "(I)I"⟩, 26), (⟨"FoamHeadModel", "turnsFirst", "(I)V"⟩, 26), (⟨"FoamHeadModel", "besides", "(I)I"⟩, 26), (⟨"FoamHeadModel", "coloured", "(II)Z"⟩, 26), (⟨"FoamHeadModel", "mayBe", "(II)Z"⟩, 26), (⟨"FoamHeadModel", "there", "()I"⟩, 26), (⟨"FoamHeadModel", "voiced", "(II)I"⟩, 26), (⟨"FoamHeadModel", "bodyFrom", "(III)I"⟩, 26), (⟨"FoamHeadModel", "body", "(III)I"⟩, 26)]
theorem lw_r6 : ∀ q ∈ lw_privs_6, lw_okq q := List.forall_mem_cons.mpr ⟨lw_p80, List.forall_mem_cons.mpr ⟨lw_p81, List.forall_mem_cons.mpr ⟨lw_p82, List.forall_mem_cons.mpr ⟨lw_p83, List.forall_mem_cons.mpr ⟨lw_p84, List.forall_mem_cons.mpr ⟨lw_p85, List.forall_mem_cons.mpr ⟨lw_p86, List.forall_mem_cons.mpr ⟨lw_p87, List.forall_mem_cons.mpr ⟨lw_p88, List.forall_mem_cons.mpr ⟨lw_p89, List.forall_mem_cons.mpr ⟨lw_p90, List.forall_mem_cons.mpr ⟨lw_p91, List.forall_mem_cons.mpr ⟨lw_p92, List.forall_mem_cons.mpr ⟨lw_p93, List.forall_mem_cons.mpr ⟨lw_p94, List.forall_mem_cons.mpr ⟨lw_p95, fun _ h => absurd h List.not_mem_nil⟩⟩⟩⟩⟩⟩⟩⟩⟩⟩⟩⟩⟩⟩⟩⟩
theorem lw_p96 : lw_okq (⟨"FoamHeadModel", "began", "(I)V"⟩, 26) := ⟨⟨by decide +kernel, by decide +kernel⟩, List.mem_of_getElem? (i := 1020) (by decide +kernel), List.mem_of_getElem? (i := 1525) (by decide +kernel), List.mem_of_getElem? (i := 1526) (by decide +kernel)⟩
def lw_privs_7 : List (MethodName × Nat) := [(⟨"FoamHeadModel", "began", "(I)V"⟩, 26)]
theorem lw_r7 : ∀ q ∈ lw_privs_7, lw_okq q := List.forall_mem_cons.mpr ⟨lw_p96, fun _ h => absurd h List.not_mem_nil⟩
def lw_privs : List (MethodName × Nat) := lw_privs_1 ++ (lw_privs_2 ++ (lw_privs_3 ++ (lw_privs_4 ++ (lw_privs_5 ++ (lw_privs_6 ++ (lw_privs_7))))))
def lw_tbl : List Cond := k2_sels lw_privs ++ tables_1
theorem lw_privs_ok : ∀ q ∈ lw_privs, lw_okq q := by
  show ∀ q ∈ lw_privs_1 ++ (lw_privs_2 ++ (lw_privs_3 ++ (lw_privs_4 ++ (lw_privs_5 ++ (lw_privs_6 ++ (lw_privs_7)))))), lw_okq q
  exact List.forall_mem_append.mpr ⟨lw_r1, List.forall_mem_append.mpr ⟨lw_r2, List.forall_mem_append.mpr ⟨lw_r3, List.forall_mem_append.mpr ⟨lw_r4, List.forall_mem_append.mpr ⟨lw_r5, List.forall_mem_append.mpr ⟨lw_r6, lw_r7⟩⟩⟩⟩⟩⟩
-- ===== end of PART A; then your names; then what follows =====
/-! ===== BEGIN words of one list among another's, by their places ===== -/
theorem goodIn_r {big : List Cond} (ws : List Cond) (ps : List Nat) (hp : ws = ps.filterMap (fun i => big[i]?)) (h : ws.all goodWord = true) : GoodIn big ws := by
  intro w hw
  have h1 := List.all_eq_true.mp h w hw
  rw [hp] at hw
  obtain ⟨i, -, hi⟩ := List.mem_filterMap.mp hw
  have hm : w ∈ big := by first | exact List.mem_of_getElem? hi | exact List.getElem?_mem hi
  exact ⟨hm, good_of_word h1⟩
theorem goodIn_app {big a b : List Cond} (ha : GoodIn big a) (hb : GoodIn big b) : GoodIn big (a ++ b) := fun w h => (List.mem_append.mp h).elim (ha w) (hb w)
theorem goodIn_ca {big a b : List Cond} {c : Cond} (ha : GoodIn big (c :: a)) (hb : GoodIn big b) : GoodIn big (c :: (a ++ b)) := fun w h => (List.mem_cons.mp h).elim (fun e => ha w (List.mem_cons.mpr (Or.inl e))) (fun h => (List.mem_append.mp h).elim (fun h => ha w (List.mem_cons.mpr (Or.inr h))) (hb w))
theorem goodIn_sub {big ws : List Cond} (hm : ∀ w ∈ ws, w ∈ big) (h : ws.all goodWord = true) : GoodIn big ws := fun w hw => ⟨hm w hw, good_of_word (List.all_eq_true.mp h w hw)⟩
/-! ===== END ===== -/

/-! ===== BEGIN new T[n][m]: the outer array a place, the inner ones among the pooled ===== -/
/-- f, but v at every address of l -/
def vr_up {α : Type} (f : Nat → α) (l : List Nat) (v : α) : Nat → α := fun a => if a ∈ l then v else f a
theorem vr_up_in {α : Type} {f : Nat → α} {l : List Nat} {v : α} {a : Nat} (h : a ∈ l) : vr_up f l v a = v := if_pos h
theorem vr_up_ne {α : Type} {f : Nat → α} {l : List Nat} {v : α} {a : Nat} (h : a ∉ l) : vr_up f l v a = f a := if_neg h
theorem vr_rows {L l : List Nat} {f : Nat → va_E} {e : va_E} (h : ∀ a, a ∈ l → a ∉ L) : va_pl L f ++ l.map (fun a => (a, e)) = va_pl (L ++ l) (vr_up f l e) := by
  unfold va_pl
  rw [List.map_append]
  congr 1
  · apply List.map_congr_left
    intro a ha
    rw [vr_up_ne (fun q => h a q ha)]
  · apply List.map_congr_left
    intro a ha
    rw [vr_up_in ha]
theorem vr_lay {X rows : va_W} {x : Nat × va_E} {pl : va_W} {D : va_G} {cl : List vw_C} {H : Heap} (hP : va_P D cl (((X ++ pl) ++ [x]) ++ rows) H) : va_P D cl ((X ++ [x]) ++ (pl ++ rows)) H := by
  rw [List.append_assoc (X ++ pl)] at hP
  have h := va_P.swap hP
  rw [← List.append_assoc X] at h
  have h2 := va_P.swap h
  rw [List.append_assoc (X ++ [x])] at h2
  exact h2
theorem vr_layD {X rows : va_W} {x : Nat × va_E} {pl : va_W} {A : Nat → Prop} (hD : va_D A (((X ++ pl) ++ [x]) ++ rows)) : va_D A ((X ++ [x]) ++ (pl ++ rows)) := by
  rw [List.append_assoc (X ++ pl)] at hD
  have h := va_D.swap hD
  rw [← List.append_assoc X] at h
  have h2 := va_D.swap h
  rw [List.append_assoc (X ++ [x])] at h2
  exact h2
theorem vr_outer (c : ClassId) (N h0 : Nat) : ∀ i : Nat, Jvm.Free.Multi.outerC c N h0 i = arrV c N (fun j => va_rf (if j < i then some (h0 + 1 + j) else none))
  | 0 => by
    show ({ cls := c, slots := Array.replicate N .null, vm := .none } : Cell) = _
    rw [arrV_new]
    refine congrArg (arrV c N) (funext fun j => ?_)
    simp [va_rf]
  | i + 1 => by
    show (Jvm.Free.Multi.outerC c N h0 i).setSlot i (.ref (h0 + 1 + i)) = _
    rw [vr_outer c N h0 i, arrV_store]
    refine congrArg (arrV c N) (funext fun j => ?_)
    by_cases e : j = i
    · subst e
      simp [updV, va_rf]
    · by_cases h : j < i
      · simp [updV, e, h, Nat.lt_succ_of_lt h]
      · simp [updV, e, h, show ¬ j < i + 1 by omega]
/-! ===== END ===== -/

/-! ===== BEGIN printed: names, fields, word lists, decode rows ===== -/
def RX0 : String := "FoamHead$Foam"
def TX0 : u_T := fun k => match k with
  | 0 => ("FoamHead$Foam", "alive", "I", false)
  | 1 => ("FoamHead$Foam", "kind", "[I", true)
  | 2 => ("FoamHead$Foam", "gas", "[I", true)
  | 3 => ("FoamHead$Foam", "water", "[I", true)
  | 4 => ("FoamHead$Foam", "row", "[I", true)
  | 5 => ("FoamHead$Foam", "sides", "[I", true)
  | 6 => ("FoamHead$Foam", "turned", "I", false)
  | 7 => ("FoamHead$Foam", "vanished", "I", false)
  | 8 => ("FoamHead$Foam", "bursts", "I", false)
  | 9 => ("FoamHead$Foam", "rings", "[[I", true)
  | _ => ("FoamHead$Foam", "joined", "[I", true)
def tyX0 : Nat → FieldType := fun k => match k with
  | 0 => .int
  | 1 => .array .int
  | 2 => .array .int
  | 3 => .array .int
  | 4 => .array .int
  | 5 => .array .int
  | 6 => .int
  | 7 => .int
  | 8 => .int
  | 9 => .array (.array .int)
  | _ => .array .int
abbrev wsX00 : List Cond := u_ws RX0 TX0 11
theorem nmX0 : ∀ a, a < 11 → ∀ b, b < 11 → a ≠ b → (TX0 a).2.1 ≠ (TX0 b).2.1 := by decide +kernel
theorem tyX0_ok : ∀ k, k < 11 → parseFieldDescriptor (TX0 k).2.2.1 = some (tyX0 k) := by decide +kernel
abbrev cX0_init : ByteArray := prog_2_method_1_code
def yX0_init : MethodName := ⟨RX0, "<init>", "()V"⟩
abbrev cX0_copyFrom : ByteArray := prog_2_method_2_code
def yX0_copyFrom : MethodName := ⟨RX0, "copyFrom", "(LFoamHead$Foam;)V"⟩
abbrev cX0_make : ByteArray := prog_2_method_3_code
def yX0_make : MethodName := ⟨RX0, "make", "(III)V"⟩
abbrev cX0_makeRing : ByteArray := prog_2_method_4_code
def yX0_makeRing : MethodName := ⟨RX0, "makeRing", "(IIII)V"⟩
abbrev cX0_has : ByteArray := prog_2_method_5_code
def yX0_has : MethodName := ⟨RX0, "has", "(I)Z"⟩
abbrev cX0_howMany : ByteArray := prog_2_method_6_code
def yX0_howMany : MethodName := ⟨RX0, "howMany", "()I"⟩
abbrev cX0_together : ByteArray := prog_2_method_7_code
def yX0_together : MethodName := ⟨RX0, "together", "([I)I"⟩
abbrev cX0_sidesOf : ByteArray := prog_2_method_8_code
def yX0_sidesOf : MethodName := ⟨RX0, "sidesOf", "(I)I"⟩
abbrev cX0_at : ByteArray := prog_2_method_9_code
def yX0_at : MethodName := ⟨RX0, "at", "(II)I"⟩
abbrev cX0_placeOf : ByteArray := prog_2_method_10_code
def yX0_placeOf : MethodName := ⟨RX0, "placeOf", "(II)I"⟩
abbrev cX0_toldAt : ByteArray := prog_2_method_11_code
def yX0_toldAt : MethodName := ⟨RX0, "toldAt", "(II)I"⟩
abbrev cX0_glasses : ByteArray := prog_2_method_12_code
def yX0_glasses : MethodName := ⟨RX0, "glasses", "(I)I"⟩
abbrev cX0_bitsBeside : ByteArray := prog_2_method_13_code
def yX0_bitsBeside : MethodName := ⟨RX0, "bitsBeside", "(I)I"⟩
abbrev cX0_sidesBeside : ByteArray := prog_2_method_14_code
def yX0_sidesBeside : MethodName := ⟨RX0, "sidesBeside", "(I)I"⟩
abbrev cX0_walls : ByteArray := prog_2_method_15_code
def yX0_walls : MethodName := ⟨RX0, "walls", "()I"⟩
abbrev cX0_isWall : ByteArray := prog_2_method_16_code
def yX0_isWall : MethodName := ⟨RX0, "isWall", "(II)Z"⟩
abbrev cX0_aheadOf : ByteArray := prog_2_method_17_code
def yX0_aheadOf : MethodName := ⟨RX0, "aheadOf", "(II)I"⟩
abbrev cX0_behind : ByteArray := prog_2_method_18_code
def yX0_behind : MethodName := ⟨RX0, "behind", "(II)I"⟩
abbrev cX0_canLoseOne : ByteArray := prog_2_method_19_code
def yX0_canLoseOne : MethodName := ⟨RX0, "canLoseOne", "(I)Z"⟩
abbrev cX0_touch : ByteArray := prog_2_method_20_code
def yX0_touch : MethodName := ⟨RX0, "touch", "(II)Z"⟩
abbrev cX0_canTurn : ByteArray := prog_2_method_21_code
def yX0_canTurn : MethodName := ⟨RX0, "canTurn", "(II)Z"⟩
abbrev cX0_canVanish : ByteArray := prog_2_method_22_code
def yX0_canVanish : MethodName := ⟨RX0, "canVanish", "(I)Z"⟩
abbrev cX0_canBurst : ByteArray := prog_2_method_23_code
def yX0_canBurst : MethodName := ⟨RX0, "canBurst", "(II)Z"⟩
abbrev cX0_turnOver : ByteArray := prog_2_method_24_code
def yX0_turnOver : MethodName := ⟨RX0, "turnOver", "(II)V"⟩
abbrev cX0_lose : ByteArray := prog_2_method_25_code
def yX0_lose : MethodName := ⟨RX0, "lose", "(I)V"⟩
abbrev cX0_unite : ByteArray := prog_2_method_26_code
def yX0_unite : MethodName := ⟨RX0, "unite", "(II)V"⟩
abbrev cX0_joinRings : ByteArray := prog_2_method_27_code
def yX0_joinRings : MethodName := ⟨RX0, "joinRings", "(II)I"⟩
abbrev cX0_standForBoth : ByteArray := prog_2_method_28_code
def yX0_standForBoth : MethodName := ⟨RX0, "standForBoth", "(III)V"⟩
abbrev cX0_bury : ByteArray := prog_2_method_29_code
def yX0_bury : MethodName := ⟨RX0, "bury", "(I)V"⟩
abbrev cX0_takeOut : ByteArray := prog_2_method_30_code
def yX0_takeOut : MethodName := ⟨RX0, "takeOut", "(II)V"⟩
abbrev cX0_putBehind : ByteArray := prog_2_method_31_code
def yX0_putBehind : MethodName := ⟨RX0, "putBehind", "(III)V"⟩
def RX1 : String := "FoamHead$Kinds"
def TX1 : u_T := fun k => match k with
  | _ => ("", "", "", false)
def tyX1 : Nat → FieldType := fun k => match k with
  | _ => .int
abbrev wsX10 : List Cond := u_ws RX1 TX1 0
theorem nmX1 : ∀ a, a < 0 → ∀ b, b < 0 → a ≠ b → (TX1 a).2.1 ≠ (TX1 b).2.1 := by decide +kernel
theorem tyX1_ok : ∀ k, k < 0 → parseFieldDescriptor (TX1 k).2.2.1 = some (tyX1 k) := by decide +kernel
abbrev cX1_isOne : ByteArray := prog_3_method_2_code
def yX1_isOne : MethodName := ⟨RX1, "isOne", "(I)Z"⟩
abbrev cX1_above : ByteArray := prog_3_method_3_code
def yX1_above : MethodName := ⟨RX1, "above", "(I)I"⟩
abbrev cX1_isUnder : ByteArray := prog_3_method_4_code
def yX1_isUnder : MethodName := ⟨RX1, "isUnder", "(II)Z"⟩
abbrev cX1_lets : ByteArray := prog_3_method_5_code
def yX1_lets : MethodName := ⟨RX1, "lets", "(I)I"⟩
abbrev cX1_dry : ByteArray := prog_3_method_6_code
def yX1_dry : MethodName := ⟨RX1, "dry", "(II)I"⟩
def RX2 : String := "FoamHead$Reader"
def TX2 : u_T := fun k => match k with
  | 0 => ("FoamHead$Reader", "place", "I", false)
  | 1 => ("FoamHead$Reader", "codes", "I", false)
  | 2 => ("FoamHead$Reader", "code", "[I", true)
  | 3 => ("FoamHead$Reader", "bytes", "[I", true)
  | 4 => ("FoamHead$Reader", "size", "I", false)
  | 5 => ("FoamHead$Reader", "names", "Ljava/lang/String;", false)
  | _ => ("FoamHead$Reader", "wrong", "Z", false)
def tyX2 : Nat → FieldType := fun k => match k with
  | 0 => .int
  | 1 => .int
  | 2 => .array .int
  | 3 => .array .int
  | 4 => .int
  | 5 => .object "java/lang/String"
  | _ => .boolean
abbrev wsX20 : List Cond := u_ws RX2 TX2 7
theorem nmX2 : ∀ a, a < 7 → ∀ b, b < 7 → a ≠ b → (TX2 a).2.1 ≠ (TX2 b).2.1 := by decide +kernel
theorem tyX2_ok : ∀ k, k < 7 → parseFieldDescriptor (TX2 k).2.2.1 = some (tyX2 k) := by decide +kernel
abbrev cX2_init : ByteArray := prog_4_method_1_code
def yX2_init : MethodName := ⟨RX2, "<init>", "()V"⟩
abbrev cX2_namesOf : ByteArray := prog_4_method_2_code
def yX2_namesOf : MethodName := ⟨RX2, "namesOf", "(I)Ljava/lang/String;"⟩
abbrev cX2_read : ByteArray := prog_4_method_3_code
def yX2_read : MethodName := ⟨RX2, "read", "([III)Z"⟩
abbrev cX2_next : ByteArray := prog_4_method_4_code
def yX2_next : MethodName := ⟨RX2, "next", "()I"⟩
abbrev cX2_nextIs : ByteArray := prog_4_method_5_code
def yX2_nextIs : MethodName := ⟨RX2, "nextIs", "(C)Z"⟩
abbrev cX2_note : ByteArray := prog_4_method_6_code
def yX2_note : MethodName := ⟨RX2, "note", "(I)V"⟩
abbrev cX2_either : ByteArray := prog_4_method_7_code
def yX2_either : MethodName := ⟨RX2, "either", "(I)V"⟩
abbrev cX2_both : ByteArray := prog_4_method_8_code
def yX2_both : MethodName := ⟨RX2, "both", "(I)V"⟩
abbrev cX2_compared : ByteArray := prog_4_method_9_code
def yX2_compared : MethodName := ⟨RX2, "compared", "(I)V"⟩
abbrev cX2_sum : ByteArray := prog_4_method_10_code
def yX2_sum : MethodName := ⟨RX2, "sum", "(I)V"⟩
abbrev cX2_product : ByteArray := prog_4_method_11_code
def yX2_product : MethodName := ⟨RX2, "product", "(I)V"⟩
abbrev cX2_single : ByteArray := prog_4_method_12_code
def yX2_single : MethodName := ⟨RX2, "single", "(I)V"⟩
abbrev cX2_close : ByteArray := prog_4_method_13_code
def yX2_close : MethodName := ⟨RX2, "close", "()V"⟩
abbrev cX2_isDigit : ByteArray := prog_4_method_14_code
def yX2_isDigit : MethodName := ⟨RX2, "isDigit", "(I)Z"⟩
abbrev cX2_number : ByteArray := prog_4_method_15_code
def yX2_number : MethodName := ⟨RX2, "number", "()V"⟩
def RX3 : String := "FoamHead$Search"
def TX3 : u_T := fun k => match k with
  | 0 => ("FoamHead$Search", "colours", "[I", true)
  | 1 => ("FoamHead$Search", "beside", "[I", true)
  | 2 => ("FoamHead$Search", "painted", "[I", true)
  | _ => ("FoamHead$Search", "alive", "I", false)
def tyX3 : Nat → FieldType := fun k => match k with
  | 0 => .array .int
  | 1 => .array .int
  | 2 => .array .int
  | _ => .int
abbrev wsX30 : List Cond := u_ws RX3 TX3 4
theorem nmX3 : ∀ a, a < 4 → ∀ b, b < 4 → a ≠ b → (TX3 a).2.1 ≠ (TX3 b).2.1 := by decide +kernel
theorem tyX3_ok : ∀ k, k < 4 → parseFieldDescriptor (TX3 k).2.2.1 = some (tyX3 k) := by decide +kernel
abbrev cX3_init : ByteArray := prog_5_method_1_code
def yX3_init : MethodName := ⟨RX3, "<init>", "()V"⟩
abbrev cX3_look : ByteArray := prog_5_method_2_code
def yX3_look : MethodName := ⟨RX3, "look", "(LFoamHead$Foam;)V"⟩
abbrev cX3_wallsBetween : ByteArray := prog_5_method_3_code
def yX3_wallsBetween : MethodName := ⟨RX3, "wallsBetween", "(II)I"⟩
abbrev cX3_besideAny : ByteArray := prog_5_method_4_code
def yX3_besideAny : MethodName := ⟨RX3, "besideAny", "(I)I"⟩
abbrev cX3_canPaint : ByteArray := prog_5_method_5_code
def yX3_canPaint : MethodName := ⟨RX3, "canPaint", "(I)Z"⟩
abbrev cX3_paintFrom : ByteArray := prog_5_method_6_code
def yX3_paintFrom : MethodName := ⟨RX3, "paintFrom", "(LFoamHead$Search;III)Z"⟩
abbrev cX3_mostApart : ByteArray := prog_5_method_7_code
def yX3_mostApart : MethodName := ⟨RX3, "mostApart", "()I"⟩
abbrev cX3_apartIn : ByteArray := prog_5_method_8_code
def yX3_apartIn : MethodName := ⟨RX3, "apartIn", "(II[I)I"⟩
def RX4 : String := "FoamHead$Sheets"
def TX4 : u_T := fun k => match k with
  | 0 => ("FoamHead$Sheets", "bits", "[I", true)
  | 1 => ("FoamHead$Sheets", "size", "[I", true)
  | _ => ("FoamHead$Sheets", "numbers", "[[I", true)
def tyX4 : Nat → FieldType := fun k => match k with
  | 0 => .array .int
  | 1 => .array .int
  | _ => .array (.array .int)
abbrev wsX40 : List Cond := u_ws RX4 TX4 3
theorem nmX4 : ∀ a, a < 3 → ∀ b, b < 3 → a ≠ b → (TX4 a).2.1 ≠ (TX4 b).2.1 := by decide +kernel
theorem tyX4_ok : ∀ k, k < 3 → parseFieldDescriptor (TX4 k).2.2.1 = some (tyX4 k) := by decide +kernel
abbrev cX4_init : ByteArray := prog_6_method_1_code
def yX4_init : MethodName := ⟨RX4, "<init>", "()V"⟩
abbrev cX4_isOne : ByteArray := prog_6_method_2_code
def yX4_isOne : MethodName := ⟨RX4, "isOne", "(I)Z"⟩
abbrev cX4_lay : ByteArray := prog_6_method_3_code
def yX4_lay : MethodName := ⟨RX4, "lay", "(III)V"⟩
abbrev cX4_set : ByteArray := prog_6_method_4_code
def yX4_set : MethodName := ⟨RX4, "set", "(III)V"⟩
abbrev cX4_haveRun : ByteArray := prog_6_method_5_code
def yX4_haveRun : MethodName := ⟨RX4, "haveRun", "(III)Z"⟩
def RX5 : String := "FoamHead$Text"
def TX5 : u_T := fun k => match k with
  | 0 => ("FoamHead$Text", "size", "I", false)
  | 1 => ("FoamHead$Text", "code", "[I", true)
  | _ => ("FoamHead$Text", "open", "[I", true)
def tyX5 : Nat → FieldType := fun k => match k with
  | 0 => .int
  | 1 => .array .int
  | _ => .array .int
abbrev wsX50 : List Cond := u_ws RX5 TX5 3
theorem nmX5 : ∀ a, a < 3 → ∀ b, b < 3 → a ≠ b → (TX5 a).2.1 ≠ (TX5 b).2.1 := by decide +kernel
theorem tyX5_ok : ∀ k, k < 3 → parseFieldDescriptor (TX5 k).2.2.1 = some (tyX5 k) := by decide +kernel
abbrev cX5_init : ByteArray := prog_7_method_1_code
def yX5_init : MethodName := ⟨RX5, "<init>", "()V"⟩
abbrev cX5_ofName : ByteArray := prog_7_method_2_code
def yX5_ofName : MethodName := ⟨RX5, "ofName", "(I)I"⟩
abbrev cX5_ofSign : ByteArray := prog_7_method_3_code
def yX5_ofSign : MethodName := ⟨RX5, "ofSign", "(C)I"⟩
abbrev cX5_isTold : ByteArray := prog_7_method_4_code
def yX5_isTold : MethodName := ⟨RX5, "isTold", "()Z"⟩
abbrev cX5_take : ByteArray := prog_7_method_5_code
def yX5_take : MethodName := ⟨RX5, "take", "([II)V"⟩
abbrev cX5_copyFrom : ByteArray := prog_7_method_6_code
def yX5_copyFrom : MethodName := ⟨RX5, "copyFrom", "(LFoamHead$Text;)V"⟩
abbrev cX5_value : ByteArray := prog_7_method_7_code
def yX5_value : MethodName := ⟨RX5, "value", "([I)I"⟩
abbrev cX5_plain : ByteArray := prog_7_method_8_code
def yX5_plain : MethodName := ⟨RX5, "plain", "(I[I)I"⟩
abbrev cX5_worked : ByteArray := prog_7_method_9_code
def yX5_worked : MethodName := ⟨RX5, "worked", "(CII)I"⟩
def RX6 : String := "FoamHead$Voices"
def TX6 : u_T := fun k => match k with
  | 0 => ("FoamHead$Voices", "parted", "Z", false)
  | 1 => ("FoamHead$Voices", "traceSize", "I", false)
  | 2 => ("FoamHead$Voices", "trace", "[I", true)
  | 3 => ("FoamHead$Voices", "began", "[I", true)
  | 4 => ("FoamHead$Voices", "beganSize", "I", false)
  | 5 => ("FoamHead$Voices", "number", "I", false)
  | 6 => ("FoamHead$Voices", "row", "I", false)
  | _ => ("FoamHead$Voices", "kind", "I", false)
def tyX6 : Nat → FieldType := fun k => match k with
  | 0 => .boolean
  | 1 => .int
  | 2 => .array .int
  | 3 => .array .int
  | 4 => .int
  | 5 => .int
  | 6 => .int
  | _ => .int
abbrev wsX60 : List Cond := u_ws RX6 TX6 8
theorem nmX6 : ∀ a, a < 8 → ∀ b, b < 8 → a ≠ b → (TX6 a).2.1 ≠ (TX6 b).2.1 := by decide +kernel
theorem tyX6_ok : ∀ k, k < 8 → parseFieldDescriptor (TX6 k).2.2.1 = some (tyX6 k) := by decide +kernel
abbrev cX6_init : ByteArray := prog_8_method_1_code
def yX6_init : MethodName := ⟨RX6, "<init>", "()V"⟩
abbrev cX6_answer : ByteArray := prog_8_method_2_code
def yX6_answer : MethodName := ⟨RX6, "answer", "(LFoamHead$Foam;III)I"⟩
abbrev cX6_keepTrace : ByteArray := prog_8_method_3_code
def yX6_keepTrace : MethodName := ⟨RX6, "keepTrace", "()V"⟩
abbrev cX6_bodyAt : ByteArray := prog_8_method_4_code
def yX6_bodyAt : MethodName := ⟨RX6, "bodyAt", "(II)I"⟩
abbrev cX6_say : ByteArray := prog_8_method_5_code
def yX6_say : MethodName := ⟨RX6, "say", "(IIII)I"⟩
abbrev cX6_speak : ByteArray := prog_8_method_6_code
def yX6_speak : MethodName := ⟨RX6, "speak", "(IIII)I"⟩
abbrev cX6_parting : ByteArray := prog_8_method_7_code
def yX6_parting : MethodName := ⟨RX6, "parting", "(I)I"⟩
def RX7 : String := "FoamHead$World"
def TX7 : u_T := fun k => match k with
  | 0 => ("FoamHead$World", "foam", "LFoamHead$Foam;", true)
  | 1 => ("FoamHead$World", "texts", "[LFoamHead$Text;", true)
  | 2 => ("FoamHead$World", "tape", "[I", true)
  | 3 => ("FoamHead$World", "tapeSize", "I", false)
  | 4 => ("FoamHead$World", "waiting", "[I", true)
  | 5 => ("FoamHead$World", "waitingSize", "I", false)
  | 6 => ("FoamHead$World", "rate", "I", false)
  | 7 => ("FoamHead$World", "dryness", "I", false)
  | 8 => ("FoamHead$World", "odds", "I", false)
  | 9 => ("FoamHead$World", "z", "I", false)
  | 10 => ("FoamHead$World", "ticks", "I", false)
  | 11 => ("FoamHead$World", "drained", "I", false)
  | 12 => ("FoamHead$World", "names", "[I", true)
  | _ => ("FoamHead$World", "moved", "[I", true)
def tyX7 : Nat → FieldType := fun k => match k with
  | 0 => .object "FoamHead$Foam"
  | 1 => .array (.object "FoamHead$Text")
  | 2 => .array .int
  | 3 => .int
  | 4 => .array .int
  | 5 => .int
  | 6 => .int
  | 7 => .int
  | 8 => .int
  | 9 => .int
  | 10 => .int
  | 11 => .int
  | 12 => .array .int
  | _ => .array .int
abbrev wsX70 : List Cond := u_ws RX7 TX7 14
theorem nmX7 : ∀ a, a < 14 → ∀ b, b < 14 → a ≠ b → (TX7 a).2.1 ≠ (TX7 b).2.1 := by decide +kernel
theorem tyX7_ok : ∀ k, k < 14 → parseFieldDescriptor (TX7 k).2.2.1 = some (tyX7 k) := by decide +kernel
abbrev cX7_init : ByteArray := prog_9_method_1_code
def yX7_init : MethodName := ⟨RX7, "<init>", "()V"⟩
abbrev cX7_copyFrom : ByteArray := prog_9_method_2_code
def yX7_copyFrom : MethodName := ⟨RX7, "copyFrom", "(LFoamHead$World;)V"⟩
abbrev cX7_startAnew : ByteArray := prog_9_method_3_code
def yX7_startAnew : MethodName := ⟨RX7, "startAnew", "(III)V"⟩
abbrev cX7_takeBytes : ByteArray := prog_9_method_4_code
def yX7_takeBytes : MethodName := ⟨RX7, "takeBytes", "(JI)V"⟩
abbrev cX7_dry : ByteArray := prog_9_method_5_code
def yX7_dry : MethodName := ⟨RX7, "dry", "(I)I"⟩
abbrev cX7_law : ByteArray := prog_9_method_6_code
def yX7_law : MethodName := ⟨RX7, "law", "(II)I"⟩
abbrev cX7_burstOf : ByteArray := prog_9_method_7_code
def yX7_burstOf : MethodName := ⟨RX7, "burstOf", "(II)I"⟩
abbrev cX7_mark : ByteArray := prog_9_method_8_code
def yX7_mark : MethodName := ⟨RX7, "mark", "(I)I"⟩
abbrev cX7_name : ByteArray := prog_9_method_9_code
def yX7_name : MethodName := ⟨RX7, "name", "(IIIII)V"⟩
abbrev cX7_passing : ByteArray := prog_9_method_10_code
def yX7_passing : MethodName := ⟨RX7, "passing", "(II)I"⟩
abbrev cX7_goOn : ByteArray := prog_9_method_11_code
def yX7_goOn : MethodName := ⟨RX7, "goOn", "()V"⟩
abbrev cX7_passGas : ByteArray := prog_9_method_12_code
def yX7_passGas : MethodName := ⟨RX7, "passGas", "()V"⟩
abbrev cX7_give : ByteArray := prog_9_method_13_code
def yX7_give : MethodName := ⟨RX7, "give", "(III)V"⟩
abbrev cX7_runDown : ByteArray := prog_9_method_14_code
def yX7_runDown : MethodName := ⟨RX7, "runDown", "()V"⟩
abbrev cX7_giveWater : ByteArray := prog_9_method_15_code
def yX7_giveWater : MethodName := ⟨RX7, "giveWater", "(I)V"⟩
abbrev cX7_bitsBelow : ByteArray := prog_9_method_16_code
def yX7_bitsBelow : MethodName := ⟨RX7, "bitsBelow", "(I)I"⟩
abbrev cX7_drain : ByteArray := prog_9_method_17_code
def yX7_drain : MethodName := ⟨RX7, "drain", "(I)V"⟩
abbrev cX7_burstDry : ByteArray := prog_9_method_18_code
def yX7_burstDry : MethodName := ⟨RX7, "burstDry", "()V"⟩
abbrev cX7_drawn : ByteArray := prog_9_method_19_code
def yX7_drawn : MethodName := ⟨RX7, "drawn", "()Z"⟩
abbrev cX7_loseEmpty : ByteArray := prog_9_method_20_code
def yX7_loseEmpty : MethodName := ⟨RX7, "loseEmpty", "()V"⟩
abbrev cX7_turnFirst : ByteArray := prog_9_method_21_code
def yX7_turnFirst : MethodName := ⟨RX7, "turnFirst", "(I)V"⟩
def RX8 : String := "FoamHead"
def TX8 : u_T := fun k => match k with
  | 0 => ("FoamHead", "now", "LFoamHead$World;", true)
  | 1 => ("FoamHead", "kept", "LFoamHead$World;", true)
  | 2 => ("FoamHead", "spare", "LFoamHead$World;", true)
  | 3 => ("FoamHead", "reader", "LFoamHead$Reader;", true)
  | 4 => ("FoamHead", "search", "LFoamHead$Search;", true)
  | 5 => ("FoamHead", "voices", "LFoamHead$Voices;", true)
  | 6 => ("FoamHead", "sheets", "LFoamHead$Sheets;", true)
  | 7 => ("FoamHead", "errors", "[I", true)
  | _ => ("FoamHead", "images", "I", false)
def tyX8 : Nat → FieldType := fun k => match k with
  | 0 => .object "FoamHead$World"
  | 1 => .object "FoamHead$World"
  | 2 => .object "FoamHead$World"
  | 3 => .object "FoamHead$Reader"
  | 4 => .object "FoamHead$Search"
  | 5 => .object "FoamHead$Voices"
  | 6 => .object "FoamHead$Sheets"
  | 7 => .array .int
  | _ => .int
abbrev wsX80 : List Cond := u_ws RX8 TX8 9
theorem nmX8 : ∀ a, a < 9 → ∀ b, b < 9 → a ≠ b → (TX8 a).2.1 ≠ (TX8 b).2.1 := by decide +kernel
theorem tyX8_ok : ∀ k, k < 9 → parseFieldDescriptor (TX8 k).2.2.1 = some (tyX8 k) := by decide +kernel
abbrev cX8_init : ByteArray := prog_1_method_1_code
def yX8_init : MethodName := ⟨RX8, "<init>", "()V"⟩
abbrev cX8_no : ByteArray := prog_1_method_2_code
def yX8_no : MethodName := ⟨RX8, "no", "(I)I"⟩
abbrev cX8_within : ByteArray := prog_1_method_3_code
def yX8_within : MethodName := ⟨RX8, "within", "(III)Z"⟩
abbrev cX8_foam : ByteArray := prog_1_method_4_code
def yX8_foam : MethodName := ⟨RX8, "foam", "(III)I"⟩
abbrev cX8_bubbleIs : ByteArray := prog_1_method_5_code
def yX8_bubbleIs : MethodName := ⟨RX8, "bubbleIs", "(II)I"⟩
abbrev cX8_as : ByteArray := prog_1_method_6_code
def yX8_as : MethodName := ⟨RX8, "as", "(II)I"⟩
abbrev cX8_become : ByteArray := prog_1_method_7_code
def yX8_become : MethodName := ⟨RX8, "become", "(II)I"⟩
abbrev cX8_fill : ByteArray := prog_1_method_8_code
def yX8_fill : MethodName := ⟨RX8, "fill", "(III)I"⟩
abbrev cX8_ring : ByteArray := prog_1_method_9_code
def yX8_ring : MethodName := ⟨RX8, "ring", "(II)I"⟩
abbrev cX8_beside : ByteArray := prog_1_method_10_code
def yX8_beside : MethodName := ⟨RX8, "beside", "(II)I"⟩
abbrev cX8_end : ByteArray := prog_1_method_11_code
def yX8_end : MethodName := ⟨RX8, "end", "(III)I"⟩
abbrev cX8_can : ByteArray := prog_1_method_12_code
def yX8_can : MethodName := ⟨RX8, "can", "(III)I"⟩
abbrev cX8_turn : ByteArray := prog_1_method_13_code
def yX8_turn : MethodName := ⟨RX8, "turn", "(II)I"⟩
abbrev cX8_vanish : ByteArray := prog_1_method_14_code
def yX8_vanish : MethodName := ⟨RX8, "vanish", "(I)I"⟩
abbrev cX8_burst : ByteArray := prog_1_method_15_code
def yX8_burst : MethodName := ⟨RX8, "burst", "(II)I"⟩
abbrev cX8_areBubbles : ByteArray := prog_1_method_16_code
def yX8_areBubbles : MethodName := ⟨RX8, "areBubbles", "(II)Z"⟩
abbrev cX8_feed : ByteArray := prog_1_method_17_code
def yX8_feed : MethodName := ⟨RX8, "feed", "(JI)I"⟩
abbrev cX8_text : ByteArray := prog_1_method_18_code
def yX8_text : MethodName := ⟨RX8, "text", "(I)I"⟩
abbrev cX8_untell : ByteArray := prog_1_method_19_code
def yX8_untell : MethodName := ⟨RX8, "untell", "(I)I"⟩
abbrev cX8_rule : ByteArray := prog_1_method_20_code
def yX8_rule : MethodName := ⟨RX8, "rule", "(II)I"⟩
abbrev cX8_passes : ByteArray := prog_1_method_21_code
def yX8_passes : MethodName := ⟨RX8, "passes", "(II)I"⟩
abbrev cX8_tick : ByteArray := prog_1_method_22_code
def yX8_tick : MethodName := ⟨RX8, "tick", "(I)I"⟩
abbrev cX8_stands : ByteArray := prog_1_method_23_code
def yX8_stands : MethodName := ⟨RX8, "stands", "(II)I"⟩
abbrev cX8_seed : ByteArray := prog_1_method_24_code
def yX8_seed : MethodName := ⟨RX8, "seed", "(I)I"⟩
abbrev cX8_all : ByteArray := prog_1_method_25_code
def yX8_all : MethodName := ⟨RX8, "all", "(I)I"⟩
abbrev cX8_pace : ByteArray := prog_1_method_26_code
def yX8_pace : MethodName := ⟨RX8, "pace", "(I)I"⟩
abbrev cX8_sides : ByteArray := prog_1_method_27_code
def yX8_sides : MethodName := ⟨RX8, "sides", "(I)I"⟩
abbrev cX8_around : ByteArray := prog_1_method_28_code
def yX8_around : MethodName := ⟨RX8, "around", "(I)I"⟩
abbrev cX8_first : ByteArray := prog_1_method_29_code
def yX8_first : MethodName := ⟨RX8, "first", "(I)I"⟩
abbrev cX8_way : ByteArray := prog_1_method_30_code
def yX8_way : MethodName := ⟨RX8, "way", "(II)I"⟩
abbrev cX8_colour : ByteArray := prog_1_method_31_code
def yX8_colour : MethodName := ⟨RX8, "colour", "(II)I"⟩
abbrev cX8_apart : ByteArray := prog_1_method_32_code
def yX8_apart : MethodName := ⟨RX8, "apart", "(I)I"⟩
abbrev cX8_marked : ByteArray := prog_1_method_33_code
def yX8_marked : MethodName := ⟨RX8, "marked", "(I)I"⟩
abbrev cX8_voice : ByteArray := prog_1_method_34_code
def yX8_voice : MethodName := ⟨RX8, "voice", "(III)I"⟩
abbrev cX8_body : ByteArray := prog_1_method_35_code
def yX8_body : MethodName := ⟨RX8, "body", "(I)I"⟩
abbrev cX8_sheet : ByteArray := prog_1_method_36_code
def yX8_sheet : MethodName := ⟨RX8, "sheet", "(III)I"⟩
abbrev cX8_put : ByteArray := prog_1_method_37_code
def yX8_put : MethodName := ⟨RX8, "put", "(III)I"⟩
abbrev cX8_move : ByteArray := prog_1_method_38_code
def yX8_move : MethodName := ⟨RX8, "move", "(IIIII)I"⟩
abbrev cX8_gases : ByteArray := prog_1_method_39_code
def yX8_gases : MethodName := ⟨RX8, "gases", "(I)I"⟩
abbrev cX8_image : ByteArray := prog_1_method_40_code
def yX8_image : MethodName := ⟨RX8, "image", "()I"⟩
abbrev cX8_restore : ByteArray := prog_1_method_41_code
def yX8_restore : MethodName := ⟨RX8, "restore", "()I"⟩
abbrev cX8_tell : ByteArray := prog_1_method_42_code
def yX8_tell : MethodName := ⟨RX8, "tell", "(I)I"⟩
abbrev cX8_check : ByteArray := prog_1_method_43_code
def yX8_check : MethodName := ⟨RX8, "check", "(I)I"⟩
abbrev cX8_count : ByteArray := prog_1_method_44_code
def yX8_count : MethodName := ⟨RX8, "count", "(I)I"⟩
abbrev cX8_told : ByteArray := prog_1_method_45_code
def yX8_told : MethodName := ⟨RX8, "told", "(I)I"⟩
def RX9 : String := "FoamHeadModel"
def TX9 : u_T := fun k => match k with
  | 0 => ("FoamHeadModel", "now", "[I", true)
  | 1 => ("FoamHeadModel", "kept", "[I", true)
  | 2 => ("FoamHeadModel", "aside", "[I", true)
  | 3 => ("FoamHeadModel", "images", "I", false)
  | 4 => ("FoamHeadModel", "errors", "[I", true)
  | 5 => ("FoamHeadModel", "sewn", "[I", true)
  | 6 => ("FoamHeadModel", "NAMED", "[Ljava/lang/String;", true)
  | 7 => ("FoamHeadModel", "at", "I", false)
  | 8 => ("FoamHeadModel", "open", "I", false)
  | 9 => ("FoamHeadModel", "use", "I", false)
  | 10 => ("FoamHeadModel", "isWrong", "Z", false)
  | 11 => ("FoamHeadModel", "code", "[I", true)
  | 12 => ("FoamHeadModel", "coded", "I", false)
  | 13 => ("FoamHeadModel", "named", "[I", true)
  | 14 => ("FoamHeadModel", "pile", "[I", true)
  | 15 => ("FoamHeadModel", "water", "[I", true)
  | 16 => ("FoamHeadModel", "colours", "[I", true)
  | 17 => ("FoamHeadModel", "touched", "[I", true)
  | 18 => ("FoamHeadModel", "trace", "[I", true)
  | 19 => ("FoamHeadModel", "traced", "I", false)
  | 20 => ("FoamHeadModel", "speaker", "I", false)
  | 21 => ("FoamHeadModel", "isParted", "Z", false)
  | 22 => ("FoamHeadModel", "widths", "[I", true)
  | 23 => ("FoamHeadModel", "sizes", "[I", true)
  | 24 => ("FoamHeadModel", "numbers", "[I", true)
  | _ => ("FoamHeadModel", "carried", "[I", true)
def tyX9 : Nat → FieldType := fun k => match k with
  | 0 => .array .int
  | 1 => .array .int
  | 2 => .array .int
  | 3 => .int
  | 4 => .array .int
  | 5 => .array .int
  | 6 => .array (.object "java/lang/String")
  | 7 => .int
  | 8 => .int
  | 9 => .int
  | 10 => .boolean
  | 11 => .array .int
  | 12 => .int
  | 13 => .array .int
  | 14 => .array .int
  | 15 => .array .int
  | 16 => .array .int
  | 17 => .array .int
  | 18 => .array .int
  | 19 => .int
  | 20 => .int
  | 21 => .boolean
  | 22 => .array .int
  | 23 => .array .int
  | 24 => .array .int
  | _ => .array .int
abbrev wsX90 : List Cond := u_ws RX9 TX9 26
theorem nmX9 : ∀ a, a < 26 → ∀ b, b < 26 → a ≠ b → (TX9 a).2.1 ≠ (TX9 b).2.1 := by decide +kernel
theorem tyX9_ok : ∀ k, k < 26 → parseFieldDescriptor (TX9 k).2.2.1 = some (tyX9 k) := by decide +kernel
abbrev cX9_init : ByteArray := prog_11_method_1_code
def yX9_init : MethodName := ⟨RX9, "<init>", "()V"⟩
abbrev cX9_finding : ByteArray := prog_11_method_2_code
def yX9_finding : MethodName := ⟨RX9, "finding", "(I)I"⟩
abbrev cX9_within : ByteArray := prog_11_method_3_code
def yX9_within : MethodName := ⟨RX9, "within", "(III)Z"⟩
abbrev cX9_has : ByteArray := prog_11_method_4_code
def yX9_has : MethodName := ⟨RX9, "has", "(II)Z"⟩
abbrev cX9_copy : ByteArray := prog_11_method_5_code
def yX9_copy : MethodName := ⟨RX9, "copy", "([I[I)V"⟩
abbrev cX9_comes : ByteArray := prog_11_method_6_code
def yX9_comes : MethodName := ⟨RX9, "comes", "(II)I"⟩
abbrev cX9_of : ByteArray := prog_11_method_7_code
def yX9_of : MethodName := ⟨RX9, "of", "(II)I"⟩
abbrev cX9_tells : ByteArray := prog_11_method_8_code
def yX9_tells : MethodName := ⟨RX9, "tells", "(III)V"⟩
abbrev cX9_is : ByteArray := prog_11_method_9_code
def yX9_is : MethodName := ⟨RX9, "is", "(I)Z"⟩
abbrev cX9_sidesOf : ByteArray := prog_11_method_10_code
def yX9_sidesOf : MethodName := ⟨RX9, "sidesOf", "(I)I"⟩
abbrev cX9_at : ByteArray := prog_11_method_11_code
def yX9_at : MethodName := ⟨RX9, "at", "(II)I"⟩
abbrev cX9_placeIn : ByteArray := prog_11_method_12_code
def yX9_placeIn : MethodName := ⟨RX9, "placeIn", "(II)I"⟩
abbrev cX9_opens : ByteArray := prog_11_method_13_code
def yX9_opens : MethodName := ⟨RX9, "opens", "(III)V"⟩
abbrev cX9_shuts : ByteArray := prog_11_method_14_code
def yX9_shuts : MethodName := ⟨RX9, "shuts", "(II)V"⟩
abbrev cX9_grows : ByteArray := prog_11_method_15_code
def yX9_grows : MethodName := ⟨RX9, "grows", "(II)V"⟩
abbrev cX9_foam : ByteArray := prog_11_method_16_code
def yX9_foam : MethodName := ⟨RX9, "foam", "(III)I"⟩
abbrev cX9_placed : ByteArray := prog_11_method_17_code
def yX9_placed : MethodName := ⟨RX9, "placed", "(IIII)I"⟩
abbrev cX9_above : ByteArray := prog_11_method_18_code
def yX9_above : MethodName := ⟨RX9, "above", "(I)I"⟩
abbrev cX9_letsOf : ByteArray := prog_11_method_19_code
def yX9_letsOf : MethodName := ⟨RX9, "letsOf", "(I)I"⟩
abbrev cX9_dryOf : ByteArray := prog_11_method_20_code
def yX9_dryOf : MethodName := ⟨RX9, "dryOf", "(I)I"⟩
abbrev cX9_glassesOf : ByteArray := prog_11_method_21_code
def yX9_glassesOf : MethodName := ⟨RX9, "glassesOf", "(I)I"⟩
abbrev cX9_markOf : ByteArray := prog_11_method_22_code
def yX9_markOf : MethodName := ⟨RX9, "markOf", "(I)I"⟩
abbrev cX9_bubbleIs : ByteArray := prog_11_method_23_code
def yX9_bubbleIs : MethodName := ⟨RX9, "bubbleIs", "(II)I"⟩
abbrev cX9_as : ByteArray := prog_11_method_24_code
def yX9_as : MethodName := ⟨RX9, "as", "(II)I"⟩
abbrev cX9_become : ByteArray := prog_11_method_25_code
def yX9_become : MethodName := ⟨RX9, "become", "(II)I"⟩
abbrev cX9_fill : ByteArray := prog_11_method_26_code
def yX9_fill : MethodName := ⟨RX9, "fill", "(III)I"⟩
abbrev cX9_leastIn : ByteArray := prog_11_method_27_code
def yX9_leastIn : MethodName := ⟨RX9, "leastIn", "(I)I"⟩
abbrev cX9_ring : ByteArray := prog_11_method_28_code
def yX9_ring : MethodName := ⟨RX9, "ring", "(II)I"⟩
abbrev cX9_isWall : ByteArray := prog_11_method_29_code
def yX9_isWall : MethodName := ⟨RX9, "isWall", "(II)Z"⟩
abbrev cX9_areTwo : ByteArray := prog_11_method_30_code
def yX9_areTwo : MethodName := ⟨RX9, "areTwo", "(II)Z"⟩
abbrev cX9_beside : ByteArray := prog_11_method_31_code
def yX9_beside : MethodName := ⟨RX9, "beside", "(II)I"⟩
abbrev cX9_ahead : ByteArray := prog_11_method_32_code
def yX9_ahead : MethodName := ⟨RX9, "ahead", "(II)I"⟩
abbrev cX9_behind : ByteArray := prog_11_method_33_code
def yX9_behind : MethodName := ⟨RX9, "behind", "(II)I"⟩
abbrev cX9_end : ByteArray := prog_11_method_34_code
def yX9_end : MethodName := ⟨RX9, "end", "(III)I"⟩
abbrev cX9_canTurn : ByteArray := prog_11_method_35_code
def yX9_canTurn : MethodName := ⟨RX9, "canTurn", "(II)Z"⟩
abbrev cX9_turns : ByteArray := prog_11_method_36_code
def yX9_turns : MethodName := ⟨RX9, "turns", "(II)V"⟩
abbrev cX9_canVanish : ByteArray := prog_11_method_37_code
def yX9_canVanish : MethodName := ⟨RX9, "canVanish", "(I)Z"⟩
abbrev cX9_vanishes : ByteArray := prog_11_method_38_code
def yX9_vanishes : MethodName := ⟨RX9, "vanishes", "(I)V"⟩
abbrev cX9_canBurst : ByteArray := prog_11_method_39_code
def yX9_canBurst : MethodName := ⟨RX9, "canBurst", "(II)Z"⟩
abbrev cX9_bursts : ByteArray := prog_11_method_40_code
def yX9_bursts : MethodName := ⟨RX9, "bursts", "(II)I"⟩
abbrev cX9_can : ByteArray := prog_11_method_41_code
def yX9_can : MethodName := ⟨RX9, "can", "(III)I"⟩
abbrev cX9_turn : ByteArray := prog_11_method_42_code
def yX9_turn : MethodName := ⟨RX9, "turn", "(II)I"⟩
abbrev cX9_many : ByteArray := prog_11_method_43_code
def yX9_many : MethodName := ⟨RX9, "many", "()I"⟩
abbrev cX9_vanish : ByteArray := prog_11_method_44_code
def yX9_vanish : MethodName := ⟨RX9, "vanish", "(I)I"⟩
abbrev cX9_burst : ByteArray := prog_11_method_45_code
def yX9_burst : MethodName := ⟨RX9, "burst", "(II)I"⟩
abbrev cX9_feed : ByteArray := prog_11_method_46_code
def yX9_feed : MethodName := ⟨RX9, "feed", "(JI)I"⟩
abbrev cX9_here : ByteArray := prog_11_method_47_code
def yX9_here : MethodName := ⟨RX9, "here", "()I"⟩
abbrev cX9_takes : ByteArray := prog_11_method_48_code
def yX9_takes : MethodName := ⟨RX9, "takes", "(I)Z"⟩
abbrev cX9_codes : ByteArray := prog_11_method_49_code
def yX9_codes : MethodName := ⟨RX9, "codes", "(I)V"⟩
abbrev cX9_either : ByteArray := prog_11_method_50_code
def yX9_either : MethodName := ⟨RX9, "either", "()V"⟩
abbrev cX9_both : ByteArray := prog_11_method_51_code
def yX9_both : MethodName := ⟨RX9, "both", "()V"⟩
abbrev cX9_compared : ByteArray := prog_11_method_52_code
def yX9_compared : MethodName := ⟨RX9, "compared", "()V"⟩
abbrev cX9_sum : ByteArray := prog_11_method_53_code
def yX9_sum : MethodName := ⟨RX9, "sum", "()V"⟩
abbrev cX9_product : ByteArray := prog_11_method_54_code
def yX9_product : MethodName := ⟨RX9, "product", "()V"⟩
abbrev cX9_nameOf : ByteArray := prog_11_method_55_code
def yX9_nameOf : MethodName := ⟨RX9, "nameOf", "(I)I"⟩
abbrev cX9_one : ByteArray := prog_11_method_56_code
def yX9_one : MethodName := ⟨RX9, "one", "()V"⟩
abbrev cX9_text : ByteArray := prog_11_method_57_code
def yX9_text : MethodName := ⟨RX9, "text", "(I)I"⟩
abbrev cX9_untell : ByteArray := prog_11_method_58_code
def yX9_untell : MethodName := ⟨RX9, "untell", "(I)I"⟩
abbrev cX9_done : ByteArray := prog_11_method_59_code
def yX9_done : MethodName := ⟨RX9, "done", "(III)I"⟩
abbrev cX9_worked : ByteArray := prog_11_method_60_code
def yX9_worked : MethodName := ⟨RX9, "worked", "(I)I"⟩
abbrev cX9_hasText : ByteArray := prog_11_method_61_code
def yX9_hasText : MethodName := ⟨RX9, "hasText", "(I)Z"⟩
abbrev cX9_given : ByteArray := prog_11_method_62_code
def yX9_given : MethodName := ⟨RX9, "given", "(IIIIII)I"⟩
abbrev cX9_rule : ByteArray := prog_11_method_63_code
def yX9_rule : MethodName := ⟨RX9, "rule", "(II)I"⟩
abbrev cX9_passesBy : ByteArray := prog_11_method_64_code
def yX9_passesBy : MethodName := ⟨RX9, "passesBy", "(II)I"⟩
abbrev cX9_passes : ByteArray := prog_11_method_65_code
def yX9_passes : MethodName := ⟨RX9, "passes", "(II)I"⟩
abbrev cX9_gives : ByteArray := prog_11_method_66_code
def yX9_gives : MethodName := ⟨RX9, "gives", "(III)V"⟩
abbrev cX9_passesAll : ByteArray := prog_11_method_67_code
def yX9_passesAll : MethodName := ⟨RX9, "passesAll", "()V"⟩
abbrev cX9_drains : ByteArray := prog_11_method_68_code
def yX9_drains : MethodName := ⟨RX9, "drains", "(I)V"⟩
abbrev cX9_isLower : ByteArray := prog_11_method_69_code
def yX9_isLower : MethodName := ⟨RX9, "isLower", "(II)Z"⟩
abbrev cX9_runs : ByteArray := prog_11_method_70_code
def yX9_runs : MethodName := ⟨RX9, "runs", "()V"⟩
abbrev cX9_drawn : ByteArray := prog_11_method_71_code
def yX9_drawn : MethodName := ⟨RX9, "drawn", "(I)I"⟩
abbrev cX9_isDry : ByteArray := prog_11_method_72_code
def yX9_isDry : MethodName := ⟨RX9, "isDry", "(II)Z"⟩
abbrev cX9_burstsAll : ByteArray := prog_11_method_73_code
def yX9_burstsAll : MethodName := ⟨RX9, "burstsAll", "()V"⟩
abbrev cX9_turnsFirst : ByteArray := prog_11_method_74_code
def yX9_turnsFirst : MethodName := ⟨RX9, "turnsFirst", "(I)V"⟩
abbrev cX9_ticks : ByteArray := prog_11_method_75_code
def yX9_ticks : MethodName := ⟨RX9, "ticks", "()V"⟩
abbrev cX9_tick : ByteArray := prog_11_method_76_code
def yX9_tick : MethodName := ⟨RX9, "tick", "(I)I"⟩
abbrev cX9_stands : ByteArray := prog_11_method_77_code
def yX9_stands : MethodName := ⟨RX9, "stands", "(II)I"⟩
abbrev cX9_seed : ByteArray := prog_11_method_78_code
def yX9_seed : MethodName := ⟨RX9, "seed", "(I)I"⟩
abbrev cX9_all : ByteArray := prog_11_method_79_code
def yX9_all : MethodName := ⟨RX9, "all", "(I)I"⟩
abbrev cX9_pace : ByteArray := prog_11_method_80_code
def yX9_pace : MethodName := ⟨RX9, "pace", "(I)I"⟩
abbrev cX9_sides : ByteArray := prog_11_method_81_code
def yX9_sides : MethodName := ⟨RX9, "sides", "(I)I"⟩
abbrev cX9_around : ByteArray := prog_11_method_82_code
def yX9_around : MethodName := ⟨RX9, "around", "(I)I"⟩
abbrev cX9_first : ByteArray := prog_11_method_83_code
def yX9_first : MethodName := ⟨RX9, "first", "(I)I"⟩
abbrev cX9_besides : ByteArray := prog_11_method_84_code
def yX9_besides : MethodName := ⟨RX9, "besides", "(I)I"⟩
abbrev cX9_way : ByteArray := prog_11_method_85_code
def yX9_way : MethodName := ⟨RX9, "way", "(II)I"⟩
abbrev cX9_mayBe : ByteArray := prog_11_method_86_code
def yX9_mayBe : MethodName := ⟨RX9, "mayBe", "(II)Z"⟩
abbrev cX9_coloured : ByteArray := prog_11_method_87_code
def yX9_coloured : MethodName := ⟨RX9, "coloured", "(II)Z"⟩
abbrev cX9_colour : ByteArray := prog_11_method_88_code
def yX9_colour : MethodName := ⟨RX9, "colour", "(II)I"⟩
abbrev cX9_bits : ByteArray := prog_11_method_89_code
def yX9_bits : MethodName := ⟨RX9, "bits", "(I)I"⟩
abbrev cX9_there : ByteArray := prog_11_method_90_code
def yX9_there : MethodName := ⟨RX9, "there", "()I"⟩
abbrev cX9_apart : ByteArray := prog_11_method_91_code
def yX9_apart : MethodName := ⟨RX9, "apart", "(I)I"⟩
abbrev cX9_marked : ByteArray := prog_11_method_92_code
def yX9_marked : MethodName := ⟨RX9, "marked", "(I)I"⟩
abbrev cX9_began : ByteArray := prog_11_method_93_code
def yX9_began : MethodName := ⟨RX9, "began", "(I)V"⟩
abbrev cX9_hasOwn : ByteArray := prog_11_method_94_code
def yX9_hasOwn : MethodName := ⟨RX9, "hasOwn", "(II)Z"⟩
abbrev cX9_voiced : ByteArray := prog_11_method_95_code
def yX9_voiced : MethodName := ⟨RX9, "voiced", "(II)I"⟩
abbrev cX9_bodyFrom : ByteArray := prog_11_method_96_code
def yX9_bodyFrom : MethodName := ⟨RX9, "bodyFrom", "(III)I"⟩
abbrev cX9_body : ByteArray := prog_11_method_97_code
def yX9_body : MethodName := ⟨RX9, "body", "(III)I"⟩
abbrev cX9_voice : ByteArray := prog_11_method_98_code
def yX9_voice : MethodName := ⟨RX9, "voice", "(III)I"⟩
abbrev cX9_body_ : ByteArray := prog_11_method_99_code
def yX9_body_ : MethodName := ⟨RX9, "body", "(I)I"⟩
abbrev cX9_isSheet : ByteArray := prog_11_method_100_code
def yX9_isSheet : MethodName := ⟨RX9, "isSheet", "(I)Z"⟩
abbrev cX9_sheet : ByteArray := prog_11_method_101_code
def yX9_sheet : MethodName := ⟨RX9, "sheet", "(III)I"⟩
abbrev cX9_put : ByteArray := prog_11_method_102_code
def yX9_put : MethodName := ⟨RX9, "put", "(III)I"⟩
abbrev cX9_move : ByteArray := prog_11_method_103_code
def yX9_move : MethodName := ⟨RX9, "move", "(IIIII)I"⟩
abbrev cX9_gases : ByteArray := prog_11_method_104_code
def yX9_gases : MethodName := ⟨RX9, "gases", "(I)I"⟩
abbrev cX9_image : ByteArray := prog_11_method_105_code
def yX9_image : MethodName := ⟨RX9, "image", "()I"⟩
abbrev cX9_restore : ByteArray := prog_11_method_106_code
def yX9_restore : MethodName := ⟨RX9, "restore", "()I"⟩
abbrev cX9_tell : ByteArray := prog_11_method_107_code
def yX9_tell : MethodName := ⟨RX9, "tell", "(I)I"⟩
abbrev cX9_check : ByteArray := prog_11_method_108_code
def yX9_check : MethodName := ⟨RX9, "check", "(I)I"⟩
abbrev cX9_count : ByteArray := prog_11_method_109_code
def yX9_count : MethodName := ⟨RX9, "count", "(I)I"⟩
abbrev cX9_told : ByteArray := prog_11_method_110_code
def yX9_told : MethodName := ⟨RX9, "told", "(I)I"⟩
def RJx145de : String := "java/io/Serializable"
def TJx145de : u_T := fun k => match k with
  | _ => ("", "", "", false)
def tyJx145de : Nat → FieldType := fun k => match k with
  | _ => .int
abbrev wsJx145de0 : List Cond := u_ws RJx145de TJx145de 0
theorem nmJx145de : ∀ a, a < 0 → ∀ b, b < 0 → a ≠ b → (TJx145de a).2.1 ≠ (TJx145de b).2.1 := by decide +kernel
theorem tyJx145de_ok : ∀ k, k < 0 → parseFieldDescriptor (TJx145de k).2.2.1 = some (tyJx145de k) := by decide +kernel
def RJx9f9b0 : String := "java/lang/CharSequence"
def TJx9f9b0 : u_T := fun k => match k with
  | _ => ("", "", "", false)
def tyJx9f9b0 : Nat → FieldType := fun k => match k with
  | _ => .int
abbrev wsJx9f9b00 : List Cond := u_ws RJx9f9b0 TJx9f9b0 0
theorem nmJx9f9b0 : ∀ a, a < 0 → ∀ b, b < 0 → a ≠ b → (TJx9f9b0 a).2.1 ≠ (TJx9f9b0 b).2.1 := by decide +kernel
theorem tyJx9f9b0_ok : ∀ k, k < 0 → parseFieldDescriptor (TJx9f9b0 k).2.2.1 = some (tyJx9f9b0 k) := by decide +kernel
def RJ11 : String := "java/lang/Character"
def TJ11 : u_T := fun k => match k with
  | _ => ("", "", "", false)
def tyJ11 : Nat → FieldType := fun k => match k with
  | _ => .int
abbrev wsJ110 : List Cond := u_ws RJ11 TJ11 0
theorem nmJ11 : ∀ a, a < 0 → ∀ b, b < 0 → a ≠ b → (TJ11 a).2.1 ≠ (TJ11 b).2.1 := by decide +kernel
theorem tyJ11_ok : ∀ k, k < 0 → parseFieldDescriptor (TJ11 k).2.2.1 = some (tyJ11 k) := by decide +kernel
abbrev cJ11_isValidCodePoint_9a6ad : ByteArray := prog_12_method_11_code
def yJ11_isValidCodePoint_9a6ad : MethodName := ⟨RJ11, "isValidCodePoint", "(I)Z"⟩
abbrev cJ11_highSurrogate_5068e : ByteArray := prog_12_method_28_code
def yJ11_highSurrogate_5068e : MethodName := ⟨RJ11, "highSurrogate", "(I)C"⟩
abbrev cJ11_lowSurrogate_5068e : ByteArray := prog_12_method_29_code
def yJ11_lowSurrogate_5068e : MethodName := ⟨RJ11, "lowSurrogate", "(I)C"⟩
def RJxb160c : String := "java/lang/Comparable"
def TJxb160c : u_T := fun k => match k with
  | _ => ("", "", "", false)
def tyJxb160c : Nat → FieldType := fun k => match k with
  | _ => .int
abbrev wsJxb160c0 : List Cond := u_ws RJxb160c TJxb160c 0
theorem nmJxb160c : ∀ a, a < 0 → ∀ b, b < 0 → a ≠ b → (TJxb160c a).2.1 ≠ (TJxb160c b).2.1 := by decide +kernel
theorem tyJxb160c_ok : ∀ k, k < 0 → parseFieldDescriptor (TJxb160c k).2.2.1 = some (tyJxb160c k) := by decide +kernel
def RJ6 : String := "java/lang/Integer"
def TJ6 : u_T := fun k => match k with
  | _ => ("", "", "", false)
def tyJ6 : Nat → FieldType := fun k => match k with
  | _ => .int
abbrev wsJ60 : List Cond := u_ws RJ6 TJ6 0
theorem nmJ6 : ∀ a, a < 0 → ∀ b, b < 0 → a ≠ b → (TJ6 a).2.1 ≠ (TJ6 b).2.1 := by decide +kernel
theorem tyJ6_ok : ∀ k, k < 0 → parseFieldDescriptor (TJ6 k).2.2.1 = some (tyJ6 k) := by decide +kernel
abbrev cJ6_bitCount_0f7a4 : ByteArray := prog_13_method_49_code
def yJ6_bitCount_0f7a4 : MethodName := ⟨RJ6, "bitCount", "(I)I"⟩
def RJ9 : String := "java/lang/Math"
def TJ9 : u_T := fun k => match k with
  | _ => ("", "", "", false)
def tyJ9 : Nat → FieldType := fun k => match k with
  | _ => .int
abbrev wsJ90 : List Cond := u_ws RJ9 TJ9 0
theorem nmJ9 : ∀ a, a < 0 → ∀ b, b < 0 → a ≠ b → (TJ9 a).2.1 ≠ (TJ9 b).2.1 := by decide +kernel
theorem tyJ9_ok : ∀ k, k < 0 → parseFieldDescriptor (TJ9 k).2.2.1 = some (tyJ9 k) := by decide +kernel
abbrev cJ9_floorMod_7cf53 : ByteArray := prog_14_method_50_code
def yJ9_floorMod_7cf53 : MethodName := ⟨RJ9, "floorMod", "(II)I"⟩
abbrev cJ9_abs_0f7a4 : ByteArray := prog_14_method_59_code
def yJ9_abs_0f7a4 : MethodName := ⟨RJ9, "abs", "(I)I"⟩
abbrev cJ9_max_7cf53 : ByteArray := prog_14_method_65_code
def yJ9_max_7cf53 : MethodName := ⟨RJ9, "max", "(II)I"⟩
abbrev cJ9_max_f86c9 : ByteArray := prog_14_method_66_code
def yJ9_max_f86c9 : MethodName := ⟨RJ9, "max", "(JJ)J"⟩
abbrev cJ9_min_7cf53 : ByteArray := prog_14_method_69_code
def yJ9_min_7cf53 : MethodName := ⟨RJ9, "min", "(II)I"⟩
abbrev cJ9_min_f86c9 : ByteArray := prog_14_method_70_code
def yJ9_min_f86c9 : MethodName := ⟨RJ9, "min", "(JJ)J"⟩
def RJ0 : String := "java/lang/String"
def TJ0 : u_T := fun k => match k with
  | _ => ("", "", "", false)
def tyJ0 : Nat → FieldType := fun k => match k with
  | _ => .int
abbrev wsJ00 : List Cond := u_ws RJ0 TJ0 0
theorem nmJ0 : ∀ a, a < 0 → ∀ b, b < 0 → a ≠ b → (TJ0 a).2.1 ≠ (TJ0 b).2.1 := by decide +kernel
theorem tyJ0_ok : ∀ k, k < 0 → parseFieldDescriptor (TJ0 k).2.2.1 = some (tyJ0 k) := by decide +kernel
abbrev cJ0_length_8abf5 : ByteArray := prog_15_method_54_code
def yJ0_length_8abf5 : MethodName := ⟨RJ0, "length", "()I"⟩
abbrev cJ0_charAt_5068e : ByteArray := prog_15_method_56_code
def yJ0_charAt_5068e : MethodName := ⟨RJ0, "charAt", "(I)C"⟩
abbrev cJ0_indexOf_0f7a4 : ByteArray := prog_15_method_79_code
def yJ0_indexOf_0f7a4 : MethodName := ⟨RJ0, "indexOf", "(I)I"⟩
abbrev cJ0_indexOf_7cf53 : ByteArray := prog_15_method_80_code
def yJ0_indexOf_7cf53 : MethodName := ⟨RJ0, "indexOf", "(II)I"⟩
abbrev cJ0_coder_7d493 : ByteArray := prog_15_method_152_code
def yJ0_coder_7d493 : MethodName := ⟨RJ0, "coder", "()B"⟩
abbrev cJ0_isLatin1_aae02 : ByteArray := prog_15_method_154_code
def yJ0_isLatin1_aae02 : MethodName := ⟨RJ0, "isLatin1", "()Z"⟩
abbrev cJ0_checkIndex_df160 : ByteArray := prog_15_method_155_code
def yJ0_checkIndex_df160 : MethodName := ⟨RJ0, "checkIndex", "(II)V"⟩
abbrev cJ0_checkBoundsBeginEnd_23922 : ByteArray := prog_15_method_158_code
def yJ0_checkBoundsBeginEnd_23922 : MethodName := ⟨RJ0, "checkBoundsBeginEnd", "(III)V"⟩
def RJ1 : String := "java/lang/StringLatin1"
def TJ1 : u_T := fun k => match k with
  | _ => ("", "", "", false)
def tyJ1 : Nat → FieldType := fun k => match k with
  | _ => .int
abbrev wsJ10 : List Cond := u_ws RJ1 TJ1 0
theorem nmJ1 : ∀ a, a < 0 → ∀ b, b < 0 → a ≠ b → (TJ1 a).2.1 ≠ (TJ1 b).2.1 := by decide +kernel
theorem tyJ1_ok : ∀ k, k < 0 → parseFieldDescriptor (TJ1 k).2.2.1 = some (tyJ1 k) := by decide +kernel
abbrev cJ1_charAt_3b067 : ByteArray := prog_16_method_2_code
def yJ1_charAt_3b067 : MethodName := ⟨RJ1, "charAt", "([BI)C"⟩
abbrev cJ1_canEncode_9a6ad : ByteArray := prog_16_method_4_code
def yJ1_canEncode_9a6ad : MethodName := ⟨RJ1, "canEncode", "(I)Z"⟩
abbrev cJ1_indexOf_4cfef : ByteArray := prog_16_method_22_code
def yJ1_indexOf_4cfef : MethodName := ⟨RJ1, "indexOf", "([BIII)I"⟩
abbrev cJ1_indexOfChar_4cfef : ByteArray := prog_16_method_23_code
def yJ1_indexOfChar_4cfef : MethodName := ⟨RJ1, "indexOfChar", "([BIII)I"⟩
def RJ2 : String := "java/lang/StringUTF16"
def TJ2 : u_T := fun k => match k with
  | _ => ("", "", "", false)
def tyJ2 : Nat → FieldType := fun k => match k with
  | _ => .int
abbrev wsJ20 : List Cond := u_ws RJ2 TJ2 0
theorem nmJ2 : ∀ a, a < 0 → ∀ b, b < 0 → a ≠ b → (TJ2 a).2.1 ≠ (TJ2 b).2.1 := by decide +kernel
theorem tyJ2_ok : ∀ k, k < 0 → parseFieldDescriptor (TJ2 k).2.2.1 = some (tyJ2 k) := by decide +kernel
abbrev cJ2_getChar_3b067 : ByteArray := prog_17_method_5_code
def yJ2_getChar_3b067 : MethodName := ⟨RJ2, "getChar", "([BI)C"⟩
abbrev cJ2_length_9d52b : ByteArray := prog_17_method_6_code
def yJ2_length_9d52b : MethodName := ⟨RJ2, "length", "([B)I"⟩
abbrev cJ2_indexOf_4cfef : ByteArray := prog_17_method_40_code
def yJ2_indexOf_4cfef : MethodName := ⟨RJ2, "indexOf", "([BIII)I"⟩
abbrev cJ2_indexOfChar_4cfef : ByteArray := prog_17_method_47_code
def yJ2_indexOfChar_4cfef : MethodName := ⟨RJ2, "indexOfChar", "([BIII)I"⟩
abbrev cJ2_indexOfCharUnsafe_4cfef : ByteArray := prog_17_method_48_code
def yJ2_indexOfCharUnsafe_4cfef : MethodName := ⟨RJ2, "indexOfCharUnsafe", "([BIII)I"⟩
abbrev cJ2_indexOfSupplementary_4cfef : ByteArray := prog_17_method_49_code
def yJ2_indexOfSupplementary_4cfef : MethodName := ⟨RJ2, "indexOfSupplementary", "([BIII)I"⟩
abbrev cJ2_charAt_3b067 : ByteArray := prog_17_method_83_code
def yJ2_charAt_3b067 : MethodName := ⟨RJ2, "charAt", "([BI)C"⟩
abbrev cJ2_checkIndex_2214a : ByteArray := prog_17_method_91_code
def yJ2_checkIndex_2214a : MethodName := ⟨RJ2, "checkIndex", "(I[B)V"⟩
abbrev cJ2_checkBoundsBeginEnd_d044e : ByteArray := prog_17_method_93_code
def yJ2_checkBoundsBeginEnd_d044e : MethodName := ⟨RJ2, "checkBoundsBeginEnd", "(II[B)V"⟩
def RJ10 : String := "java/lang/System"
def TJ10 : u_T := fun k => match k with
  | _ => ("", "", "", false)
def tyJ10 : Nat → FieldType := fun k => match k with
  | _ => .int
abbrev wsJ100 : List Cond := u_ws RJ10 TJ10 0
theorem nmJ10 : ∀ a, a < 0 → ∀ b, b < 0 → a ≠ b → (TJ10 a).2.1 ≠ (TJ10 b).2.1 := by decide +kernel
theorem tyJ10_ok : ∀ k, k < 0 → parseFieldDescriptor (TJ10 k).2.2.1 = some (tyJ10 k) := by decide +kernel
def RJxfd54e : String := "java/lang/constant/Constable"
def TJxfd54e : u_T := fun k => match k with
  | _ => ("", "", "", false)
def tyJxfd54e : Nat → FieldType := fun k => match k with
  | _ => .int
abbrev wsJxfd54e0 : List Cond := u_ws RJxfd54e TJxfd54e 0
theorem nmJxfd54e : ∀ a, a < 0 → ∀ b, b < 0 → a ≠ b → (TJxfd54e a).2.1 ≠ (TJxfd54e b).2.1 := by decide +kernel
theorem tyJxfd54e_ok : ∀ k, k < 0 → parseFieldDescriptor (TJxfd54e k).2.2.1 = some (tyJxfd54e k) := by decide +kernel
def RJx3cf43 : String := "java/lang/constant/ConstantDesc"
def TJx3cf43 : u_T := fun k => match k with
  | _ => ("", "", "", false)
def tyJx3cf43 : Nat → FieldType := fun k => match k with
  | _ => .int
abbrev wsJx3cf430 : List Cond := u_ws RJx3cf43 TJx3cf43 0
theorem nmJx3cf43 : ∀ a, a < 0 → ∀ b, b < 0 → a ≠ b → (TJx3cf43 a).2.1 ≠ (TJx3cf43 b).2.1 := by decide +kernel
theorem tyJx3cf43_ok : ∀ k, k < 0 → parseFieldDescriptor (TJx3cf43 k).2.2.1 = some (tyJx3cf43 k) := by decide +kernel
def RJ7 : String := "java/util/Arrays"
def TJ7 : u_T := fun k => match k with
  | _ => ("", "", "", false)
def tyJ7 : Nat → FieldType := fun k => match k with
  | _ => .int
abbrev wsJ70 : List Cond := u_ws RJ7 TJ7 0
theorem nmJ7 : ∀ a, a < 0 → ∀ b, b < 0 → a ≠ b → (TJ7 a).2.1 ≠ (TJ7 b).2.1 := by decide +kernel
theorem tyJ7_ok : ∀ k, k < 0 → parseFieldDescriptor (TJ7 k).2.2.1 = some (tyJ7 k) := by decide +kernel
abbrev cJ7_fill_53178 : ByteArray := prog_19_method_103_code
def yJ7_fill_53178 : MethodName := ⟨RJ7, "fill", "([II)V"⟩
def RJ3 : String := "jdk/internal/util/Preconditions"
def TJ3 : u_T := fun k => match k with
  | _ => ("", "", "", false)
def tyJ3 : Nat → FieldType := fun k => match k with
  | _ => .int
abbrev wsJ30 : List Cond := u_ws RJ3 TJ3 0
theorem nmJ3 : ∀ a, a < 0 → ∀ b, b < 0 → a ≠ b → (TJ3 a).2.1 ≠ (TJ3 b).2.1 := by decide +kernel
theorem tyJ3_ok : ∀ k, k < 0 → parseFieldDescriptor (TJ3 k).2.2.1 = some (tyJ3 k) := by decide +kernel
abbrev cJ3_checkIndex_8e157 : ByteArray := prog_20_method_11_code
def yJ3_checkIndex_8e157 : MethodName := ⟨RJ3, "checkIndex", "(IILjava/util/function/BiFunction;)I"⟩
abbrev cJ3_checkFromToIndex_8c36e : ByteArray := prog_20_method_12_code
def yJ3_checkFromToIndex_8c36e : MethodName := ⟨RJ3, "checkFromToIndex", "(IIILjava/util/function/BiFunction;)I"⟩
def RL : String := "FoamHeadLaw"
abbrev cL_law : ByteArray := code
def yL_law : MethodName := ⟨RL, "law", "([I)Z"⟩
abbrev vwCl : List vw_C := [(RX0, TX0, 11), (RX2, TX2, 7), (RX3, TX3, 4), (RX4, TX4, 3), (RX5, TX5, 3), (RX6, TX6, 8), (RX7, TX7, 14), (RX8, TX8, 9), (RX9, TX9, 26)]
