theorem jch_1 {w : Cond} (h : w ∈ tables_1_1) : w ∈ lw_tbl := List.mem_append_right _ (show w ∈ tables_1 from List.mem_append_left _ h)
theorem jch_2 {w : Cond} (h : w ∈ tables_1_2) : w ∈ lw_tbl := List.mem_append_right _ (show w ∈ tables_1 from List.mem_append_right _ (List.mem_append_left _ h))
theorem jch_3 {w : Cond} (h : w ∈ tables_1_3) : w ∈ lw_tbl := List.mem_append_right _ (show w ∈ tables_1 from List.mem_append_right _ (List.mem_append_right _ (List.mem_append_left _ h)))
theorem jch_4 {w : Cond} (h : w ∈ tables_1_4) : w ∈ lw_tbl := List.mem_append_right _ (show w ∈ tables_1 from List.mem_append_right _ (List.mem_append_right _ (List.mem_append_right _ (List.mem_append_left _ h))))
theorem jch_5 {w : Cond} (h : w ∈ tables_1_5) : w ∈ lw_tbl := List.mem_append_right _ (show w ∈ tables_1 from List.mem_append_right _ (List.mem_append_right _ (List.mem_append_right _ (List.mem_append_right _ (List.mem_append_left _ h)))))
theorem jch_6 {w : Cond} (h : w ∈ tables_1_6) : w ∈ lw_tbl := List.mem_append_right _ (show w ∈ tables_1 from List.mem_append_right _ (List.mem_append_right _ (List.mem_append_right _ (List.mem_append_right _ (List.mem_append_right _ (List.mem_append_left _ h))))))
theorem jch_7 {w : Cond} (h : w ∈ tables_1_7) : w ∈ lw_tbl := List.mem_append_right _ (show w ∈ tables_1 from List.mem_append_right _ (List.mem_append_right _ (List.mem_append_right _ (List.mem_append_right _ (List.mem_append_right _ (List.mem_append_right _ (h)))))))
theorem jg_0 : Cond.methodLink RX0 3 objectInit ∈ jG := jg_in (jch_1 (List.mem_of_getElem? (i := 39) rfl)) rfl
theorem jg_1 : Cond.instanceMethod objectInit ∈ jG := jg_in (jch_1 (List.mem_of_getElem? (i := 26) rfl)) rfl
theorem jg_2 : Cond.code objectInit ⟨#[0xb1]⟩ 1 none ∈ jG := jg_in (jch_1 (List.mem_of_getElem? (i := 27) rfl)) rfl
theorem jg_3 : Cond.arrayClass .int ∈ jG := jg_in (jch_1 (List.mem_of_getElem? (i := 93) rfl)) rfl
theorem jg_4 : Cond.fieldLink RX0 9 "FoamHead$Foam" "kind" "[I" ∈ jG := jg_in (jch_1 (List.mem_of_getElem? (i := 45) rfl)) rfl
theorem jg_5 : Cond.fieldLink RX0 15 "FoamHead$Foam" "gas" "[I" ∈ jG := jg_in (jch_1 (List.mem_of_getElem? (i := 49) rfl)) rfl
theorem jg_6 : Cond.fieldLink RX0 18 "FoamHead$Foam" "water" "[I" ∈ jG := jg_in (jch_1 (List.mem_of_getElem? (i := 52) rfl)) rfl
theorem jg_7 : Cond.fieldLink RX0 21 "FoamHead$Foam" "row" "[I" ∈ jG := jg_in (jch_1 (List.mem_of_getElem? (i := 55) rfl)) rfl
theorem jg_8 : Cond.fieldLink RX0 24 "FoamHead$Foam" "sides" "[I" ∈ jG := jg_in (jch_1 (List.mem_of_getElem? (i := 59) rfl)) rfl
theorem jg_9 : Cond.classLink RX0 27 "[[I" ∈ jG := jg_in (jch_1 (List.mem_of_getElem? (i := 40) rfl)) rfl
theorem jg_10 : Cond.fieldLink RX0 29 "FoamHead$Foam" "rings" "[[I" ∈ jG := jg_in (jch_1 (List.mem_of_getElem? (i := 68) rfl)) rfl
theorem jg_11 : Cond.fieldLink RX0 32 "FoamHead$Foam" "joined" "[I" ∈ jG := jg_in (jch_1 (List.mem_of_getElem? (i := 69) rfl)) rfl
theorem jg_12 : Cond.fieldLink RX0 35 "FoamHead$Foam" "alive" "I" ∈ jG := jg_in (jch_1 (List.mem_of_getElem? (i := 42) rfl)) rfl
theorem jg_13 : Cond.fieldLink RX0 39 "FoamHead$Foam" "turned" "I" ∈ jG := jg_in (jch_1 (List.mem_of_getElem? (i := 62) rfl)) rfl
theorem jg_14 : Cond.fieldLink RX0 42 "FoamHead$Foam" "vanished" "I" ∈ jG := jg_in (jch_1 (List.mem_of_getElem? (i := 64) rfl)) rfl
theorem jg_15 : Cond.fieldLink RX0 45 "FoamHead$Foam" "bursts" "I" ∈ jG := jg_in (jch_1 (List.mem_of_getElem? (i := 66) rfl)) rfl
theorem jg_16 : Cond.methodLink RX0 48 arraycopyName ∈ jG := jg_in (jch_3 (List.mem_of_getElem? (i := 63) rfl)) rfl
theorem jg_17 : Cond.native arraycopyName ∈ jG := jg_in (jch_3 (List.mem_of_getElem? (i := 65) rfl)) rfl
theorem jg_18 : Cond.static arraycopyName ∈ jG := jg_in (jch_3 (List.mem_of_getElem? (i := 64) rfl)) rfl
theorem jg_19 : Cond.initialized RJ10 ∈ jG := jg_in (jch_1 (List.mem_of_getElem? (i := 14) rfl)) rfl
theorem jg_20 : Cond.methodLink RX0 54 yJ7_fill_53178 ∈ jG := jg_in (jch_2 (List.mem_of_getElem? (i := 83) rfl)) rfl
theorem jg_21 : Cond.static yJ7_fill_53178 ∈ jG := jg_in (jch_2 (List.mem_of_getElem? (i := 84) rfl)) rfl
theorem jg_22 : Cond.methodLink RX0 62 yX0_makeRing ∈ jG := jg_in (jch_2 (List.mem_of_getElem? (i := 86) rfl)) rfl
theorem jg_23 : Cond.instanceMethod yX0_makeRing ∈ jG := jg_in (jch_2 (List.mem_of_getElem? (i := 88) rfl)) rfl
theorem jg_24 : Cond.fieldLink RX0 66 "FoamHead$Foam" "ODD_STEP" "[I" ∈ jG := jg_in (jch_2 (List.mem_of_getElem? (i := 90) rfl)) rfl
theorem jg_25 : Cond.fieldLink RX0 69 "FoamHead$Foam" "EVEN_STEP" "[I" ∈ jG := jg_in (jch_2 (List.mem_of_getElem? (i := 92) rfl)) rfl
theorem jg_26 : Cond.fieldLink RX0 72 "FoamHead$Foam" "ROW_STEP" "[I" ∈ jG := jg_in (jch_2 (List.mem_of_getElem? (i := 94) rfl)) rfl
theorem jg_27 : Cond.methodLink RX0 75 yJ6_bitCount_0f7a4 ∈ jG := jg_in (jch_2 (List.mem_of_getElem? (i := 100) rfl)) rfl
theorem jg_28 : Cond.static yJ6_bitCount_0f7a4 ∈ jG := jg_in (jch_2 (List.mem_of_getElem? (i := 101) rfl)) rfl
theorem jg_29 : Cond.methodLink RX0 81 yX0_has ∈ jG := jg_in (jch_2 (List.mem_of_getElem? (i := 209) rfl)) rfl
theorem jg_30 : Cond.instanceMethod yX0_has ∈ jG := jg_in (jch_2 (List.mem_of_getElem? (i := 111) rfl)) rfl
theorem jg_31 : Cond.methodLink RX0 85 yJ9_floorMod_7cf53 ∈ jG := jg_in (jch_2 (List.mem_of_getElem? (i := 126) rfl)) rfl
theorem jg_32 : Cond.static yJ9_floorMod_7cf53 ∈ jG := jg_in (jch_2 (List.mem_of_getElem? (i := 127) rfl)) rfl
theorem jg_33 : Cond.methodLink RX0 91 yX0_sidesOf ∈ jG := jg_in (jch_2 (List.mem_of_getElem? (i := 118) rfl)) rfl
theorem jg_34 : Cond.instanceMethod yX0_sidesOf ∈ jG := jg_in (jch_2 (List.mem_of_getElem? (i := 119) rfl)) rfl
theorem jg_35 : Cond.methodLink RX0 94 yX0_at ∈ jG := jg_in (jch_2 (List.mem_of_getElem? (i := 122) rfl)) rfl
theorem jg_36 : Cond.instanceMethod yX0_at ∈ jG := jg_in (jch_2 (List.mem_of_getElem? (i := 123) rfl)) rfl
theorem jg_37 : Cond.methodLink RX0 97 yX0_bitsBeside ∈ jG := jg_in (jch_5 (List.mem_of_getElem? (i := 54) rfl)) rfl
theorem jg_38 : Cond.instanceMethod yX0_bitsBeside ∈ jG := jg_in (jch_4 (List.mem_of_getElem? (i := 61) rfl)) rfl
theorem jg_39 : Cond.methodLink RX0 100 yX0_placeOf ∈ jG := jg_in (jch_2 (List.mem_of_getElem? (i := 210) rfl)) rfl
theorem jg_40 : Cond.instanceMethod yX0_placeOf ∈ jG := jg_in (jch_2 (List.mem_of_getElem? (i := 211) rfl)) rfl
theorem jg_41 : Cond.methodLink RX0 103 yX0_isWall ∈ jG := jg_in (jch_2 (List.mem_of_getElem? (i := 234) rfl)) rfl
theorem jg_42 : Cond.instanceMethod yX0_isWall ∈ jG := jg_in (jch_2 (List.mem_of_getElem? (i := 206) rfl)) rfl
theorem jg_43 : Cond.methodLink RX0 107 yX0_aheadOf ∈ jG := jg_in (jch_2 (List.mem_of_getElem? (i := 235) rfl)) rfl
theorem jg_44 : Cond.instanceMethod yX0_aheadOf ∈ jG := jg_in (jch_2 (List.mem_of_getElem? (i := 219) rfl)) rfl
theorem jg_45 : Cond.methodLink RX0 110 yX0_behind ∈ jG := jg_in (jch_2 (List.mem_of_getElem? (i := 236) rfl)) rfl
theorem jg_46 : Cond.instanceMethod yX0_behind ∈ jG := jg_in (jch_2 (List.mem_of_getElem? (i := 223) rfl)) rfl
theorem jg_47 : Cond.methodLink RX0 113 yX0_touch ∈ jG := jg_in (jch_2 (List.mem_of_getElem? (i := 237) rfl)) rfl
theorem jg_48 : Cond.instanceMethod yX0_touch ∈ jG := jg_in (jch_2 (List.mem_of_getElem? (i := 239) rfl)) rfl
theorem jg_49 : Cond.methodLink RX0 116 yX0_canLoseOne ∈ jG := jg_in (jch_3 (List.mem_of_getElem? (i := 5) rfl)) rfl
theorem jg_50 : Cond.instanceMethod yX0_canLoseOne ∈ jG := jg_in (jch_3 (List.mem_of_getElem? (i := 7) rfl)) rfl
theorem jg_51 : Cond.methodLink RX0 119 yX0_takeOut ∈ jG := jg_in (jch_3 (List.mem_of_getElem? (i := 21) rfl)) rfl
theorem jg_52 : Cond.instanceMethod yX0_takeOut ∈ jG := jg_in (jch_3 (List.mem_of_getElem? (i := 23) rfl)) rfl
theorem jg_53 : Cond.methodLink RX0 123 yX0_putBehind ∈ jG := jg_in (jch_3 (List.mem_of_getElem? (i := 25) rfl)) rfl
theorem jg_54 : Cond.instanceMethod yX0_putBehind ∈ jG := jg_in (jch_3 (List.mem_of_getElem? (i := 27) rfl)) rfl
theorem jg_55 : Cond.methodLink RX0 127 yX0_bury ∈ jG := jg_in (jch_3 (List.mem_of_getElem? (i := 37) rfl)) rfl
theorem jg_56 : Cond.instanceMethod yX0_bury ∈ jG := jg_in (jch_3 (List.mem_of_getElem? (i := 39) rfl)) rfl
theorem jg_57 : Cond.methodLink RX0 131 yJ9_min_7cf53 ∈ jG := jg_in (jch_3 (List.mem_of_getElem? (i := 49) rfl)) rfl
theorem jg_58 : Cond.static yJ9_min_7cf53 ∈ jG := jg_in (jch_3 (List.mem_of_getElem? (i := 50) rfl)) rfl
theorem jg_59 : Cond.methodLink RX0 134 yJ9_max_7cf53 ∈ jG := jg_in (jch_3 (List.mem_of_getElem? (i := 52) rfl)) rfl
theorem jg_60 : Cond.static yJ9_max_7cf53 ∈ jG := jg_in (jch_3 (List.mem_of_getElem? (i := 53) rfl)) rfl
theorem jg_61 : Cond.methodLink RX0 137 yX0_joinRings ∈ jG := jg_in (jch_3 (List.mem_of_getElem? (i := 55) rfl)) rfl
theorem jg_62 : Cond.instanceMethod yX0_joinRings ∈ jG := jg_in (jch_3 (List.mem_of_getElem? (i := 57) rfl)) rfl
theorem jg_63 : Cond.methodLink RX0 140 yX0_standForBoth ∈ jG := jg_in (jch_3 (List.mem_of_getElem? (i := 59) rfl)) rfl
theorem jg_64 : Cond.instanceMethod yX0_standForBoth ∈ jG := jg_in (jch_3 (List.mem_of_getElem? (i := 61) rfl)) rfl
theorem jg_65 : Cond.constant RX0 143 (99999 : Int32) ∈ jG := jg_in (jch_3 (List.mem_of_getElem? (i := 66) rfl)) rfl
theorem jg_66 : Cond.methodLink RX1 9 yX1_isOne ∈ jG := jg_in (jch_2 (List.mem_of_getElem? (i := 178) rfl)) rfl
theorem jg_67 : Cond.static yX1_isOne ∈ jG := jg_in (jch_2 (List.mem_of_getElem? (i := 170) rfl)) rfl
theorem jg_68 : Cond.fieldLink RX1 13 "FoamHead$Kinds" "ABOVE" "[I" ∈ jG := jg_in (jch_2 (List.mem_of_getElem? (i := 179) rfl)) rfl
theorem jg_69 : Cond.methodLink RX1 17 yX1_above ∈ jG := jg_in (jch_2 (List.mem_of_getElem? (i := 175) rfl)) rfl
theorem jg_70 : Cond.static yX1_above ∈ jG := jg_in (jch_2 (List.mem_of_getElem? (i := 176) rfl)) rfl
theorem jg_71 : Cond.methodLink RX2 3 objectInit ∈ jG := jg_in (jch_1 (List.mem_of_getElem? (i := 172) rfl)) rfl
theorem jg_72 : Cond.fieldLink RX2 9 "FoamHead$Reader" "code" "[I" ∈ jG := jg_in (jch_1 (List.mem_of_getElem? (i := 178) rfl)) rfl
theorem jg_73 : Cond.fieldLink RX2 15 "FoamHead$Reader" "bytes" "[I" ∈ jG := jg_in (jch_1 (List.mem_of_getElem? (i := 180) rfl)) rfl
theorem jg_74 : Cond.fieldLink RX2 20 "FoamHead$Reader" "names" "Ljava/lang/String;" ∈ jG := jg_in (jch_1 (List.mem_of_getElem? (i := 182) rfl)) rfl
theorem jg_75 : Cond.methodLink RX2 30 yJ9_min_7cf53 ∈ jG := jg_in (jch_3 (List.mem_of_getElem? (i := 85) rfl)) rfl
theorem jg_76 : Cond.methodLink RX2 36 yJ9_max_7cf53 ∈ jG := jg_in (jch_3 (List.mem_of_getElem? (i := 86) rfl)) rfl
theorem jg_77 : Cond.fieldLink RX2 39 "FoamHead$Reader" "size" "I" ∈ jG := jg_in (jch_1 (List.mem_of_getElem? (i := 181) rfl)) rfl
theorem jg_78 : Cond.methodLink RX2 43 arraycopyName ∈ jG := jg_in (jch_3 (List.mem_of_getElem? (i := 87) rfl)) rfl
theorem jg_79 : Cond.methodLink RX2 49 yX2_namesOf ∈ jG := jg_in (jch_3 (List.mem_of_getElem? (i := 88) rfl)) rfl
theorem jg_80 : Cond.static yX2_namesOf ∈ jG := jg_in (jch_3 (List.mem_of_getElem? (i := 89) rfl)) rfl
theorem jg_81 : Cond.fieldLink RX2 53 "FoamHead$Reader" "place" "I" ∈ jG := jg_in (jch_1 (List.mem_of_getElem? (i := 174) rfl)) rfl
theorem jg_82 : Cond.fieldLink RX2 56 "FoamHead$Reader" "codes" "I" ∈ jG := jg_in (jch_1 (List.mem_of_getElem? (i := 176) rfl)) rfl
theorem jg_83 : Cond.fieldLink RX2 59 "FoamHead$Reader" "wrong" "Z" ∈ jG := jg_in (jch_1 (List.mem_of_getElem? (i := 183) rfl)) rfl
theorem jg_84 : Cond.methodLink RX2 63 yX2_either ∈ jG := jg_in (jch_3 (List.mem_of_getElem? (i := 94) rfl)) rfl
theorem jg_85 : Cond.instanceMethod yX2_either ∈ jG := jg_in (jch_3 (List.mem_of_getElem? (i := 96) rfl)) rfl
theorem jg_86 : Cond.methodLink RX2 67 yX2_next ∈ jG := jg_in (jch_3 (List.mem_of_getElem? (i := 122) rfl)) rfl
theorem jg_87 : Cond.instanceMethod yX2_next ∈ jG := jg_in (jch_3 (List.mem_of_getElem? (i := 124) rfl)) rfl
theorem jg_88 : Cond.methodLink RX2 71 yX2_both ∈ jG := jg_in (jch_3 (List.mem_of_getElem? (i := 98) rfl)) rfl
theorem jg_89 : Cond.instanceMethod yX2_both ∈ jG := jg_in (jch_3 (List.mem_of_getElem? (i := 100) rfl)) rfl
theorem jg_90 : Cond.methodLink RX2 74 yX2_nextIs ∈ jG := jg_in (jch_3 (List.mem_of_getElem? (i := 118) rfl)) rfl
theorem jg_91 : Cond.instanceMethod yX2_nextIs ∈ jG := jg_in (jch_3 (List.mem_of_getElem? (i := 120) rfl)) rfl
theorem jg_92 : Cond.methodLink RX2 78 yX5_ofSign ∈ jG := jg_in (jch_3 (List.mem_of_getElem? (i := 226) rfl)) rfl
theorem jg_93 : Cond.static yX5_ofSign ∈ jG := jg_in (jch_2 (List.mem_of_getElem? (i := 160) rfl)) rfl
theorem jg_94 : Cond.methodLink RX2 84 yX2_note ∈ jG := jg_in (jch_3 (List.mem_of_getElem? (i := 215) rfl)) rfl
theorem jg_95 : Cond.instanceMethod yX2_note ∈ jG := jg_in (jch_3 (List.mem_of_getElem? (i := 217) rfl)) rfl
theorem jg_96 : Cond.methodLink RX2 87 yX2_compared ∈ jG := jg_in (jch_3 (List.mem_of_getElem? (i := 102) rfl)) rfl
theorem jg_97 : Cond.instanceMethod yX2_compared ∈ jG := jg_in (jch_3 (List.mem_of_getElem? (i := 104) rfl)) rfl
theorem jg_98 : Cond.methodLink RX2 90 yX2_sum ∈ jG := jg_in (jch_3 (List.mem_of_getElem? (i := 106) rfl)) rfl
theorem jg_99 : Cond.instanceMethod yX2_sum ∈ jG := jg_in (jch_3 (List.mem_of_getElem? (i := 108) rfl)) rfl
theorem jg_100 : Cond.methodLink RX2 93 yX2_product ∈ jG := jg_in (jch_3 (List.mem_of_getElem? (i := 110) rfl)) rfl
theorem jg_101 : Cond.instanceMethod yX2_product ∈ jG := jg_in (jch_3 (List.mem_of_getElem? (i := 112) rfl)) rfl
theorem jg_102 : Cond.methodLink RX2 96 yX2_single ∈ jG := jg_in (jch_3 (List.mem_of_getElem? (i := 114) rfl)) rfl
theorem jg_103 : Cond.instanceMethod yX2_single ∈ jG := jg_in (jch_3 (List.mem_of_getElem? (i := 116) rfl)) rfl
theorem jg_104 : Cond.methodLink RX2 99 yJ0_indexOf_0f7a4 ∈ jG := jg_in (jch_3 (List.mem_of_getElem? (i := 126) rfl)) rfl
theorem jg_105 : Cond.instanceMethod yJ0_indexOf_0f7a4 ∈ jG := jg_in (jch_3 (List.mem_of_getElem? (i := 127) rfl)) rfl
theorem jg_106 : Cond.methodLink RX2 105 yX2_isDigit ∈ jG := jg_in (jch_3 (List.mem_of_getElem? (i := 208) rfl)) rfl
theorem jg_107 : Cond.static yX2_isDigit ∈ jG := jg_in (jch_3 (List.mem_of_getElem? (i := 209) rfl)) rfl
theorem jg_108 : Cond.methodLink RX2 109 yX2_number ∈ jG := jg_in (jch_3 (List.mem_of_getElem? (i := 211) rfl)) rfl
theorem jg_109 : Cond.instanceMethod yX2_number ∈ jG := jg_in (jch_3 (List.mem_of_getElem? (i := 213) rfl)) rfl
theorem jg_110 : Cond.methodLink RX2 112 yX5_ofName ∈ jG := jg_in (jch_3 (List.mem_of_getElem? (i := 219) rfl)) rfl
theorem jg_111 : Cond.static yX5_ofName ∈ jG := jg_in (jch_3 (List.mem_of_getElem? (i := 220) rfl)) rfl
theorem jg_112 : Cond.methodLink RX2 115 yX2_close ∈ jG := jg_in (jch_3 (List.mem_of_getElem? (i := 222) rfl)) rfl
theorem jg_113 : Cond.instanceMethod yX2_close ∈ jG := jg_in (jch_3 (List.mem_of_getElem? (i := 224) rfl)) rfl
theorem jg_114 : Cond.methodLink RX3 3 objectInit ∈ jG := jg_in (jch_1 (List.mem_of_getElem? (i := 205) rfl)) rfl
theorem jg_115 : Cond.fieldLink RX3 9 "FoamHead$Search" "colours" "[I" ∈ jG := jg_in (jch_1 (List.mem_of_getElem? (i := 206) rfl)) rfl
theorem jg_116 : Cond.fieldLink RX3 15 "FoamHead$Search" "beside" "[I" ∈ jG := jg_in (jch_1 (List.mem_of_getElem? (i := 208) rfl)) rfl
theorem jg_117 : Cond.fieldLink RX3 18 "FoamHead$Search" "painted" "[I" ∈ jG := jg_in (jch_1 (List.mem_of_getElem? (i := 209) rfl)) rfl
theorem jg_118 : Cond.fieldLink RX3 21 "FoamHead$Foam" "alive" "I" ∈ jG := jg_in (jch_1 (List.mem_of_getElem? (i := 43) rfl)) rfl
theorem jg_119 : Cond.fieldLink RX3 27 "FoamHead$Search" "alive" "I" ∈ jG := jg_in (jch_1 (List.mem_of_getElem? (i := 210) rfl)) rfl
theorem jg_120 : Cond.methodLink RX3 28 yX0_bitsBeside ∈ jG := jg_in (jch_4 (List.mem_of_getElem? (i := 160) rfl)) rfl
theorem jg_121 : Cond.methodLink RX3 32 yX3_besideAny ∈ jG := jg_in (jch_4 (List.mem_of_getElem? (i := 165) rfl)) rfl
theorem jg_122 : Cond.instanceMethod yX3_besideAny ∈ jG := jg_in (jch_4 (List.mem_of_getElem? (i := 167) rfl)) rfl
theorem jg_123 : Cond.methodLink RX3 35 yJ7_fill_53178 ∈ jG := jg_in (jch_4 (List.mem_of_getElem? (i := 177) rfl)) rfl
theorem jg_124 : Cond.methodLink RX3 41 yX3_paintFrom ∈ jG := jg_in (jch_4 (List.mem_of_getElem? (i := 178) rfl)) rfl
theorem jg_125 : Cond.static yX3_paintFrom ∈ jG := jg_in (jch_4 (List.mem_of_getElem? (i := 179) rfl)) rfl
theorem jg_126 : Cond.methodLink RX3 45 yJ9_min_7cf53 ∈ jG := jg_in (jch_4 (List.mem_of_getElem? (i := 181) rfl)) rfl
theorem jg_127 : Cond.methodLink RX3 51 yJ9_max_7cf53 ∈ jG := jg_in (jch_4 (List.mem_of_getElem? (i := 182) rfl)) rfl
theorem jg_128 : Cond.methodLink RX3 54 yX3_apartIn ∈ jG := jg_in (jch_4 (List.mem_of_getElem? (i := 191) rfl)) rfl
theorem jg_129 : Cond.static yX3_apartIn ∈ jG := jg_in (jch_4 (List.mem_of_getElem? (i := 192) rfl)) rfl
theorem jg_130 : Cond.methodLink RX3 58 yJ6_bitCount_0f7a4 ∈ jG := jg_in (jch_4 (List.mem_of_getElem? (i := 194) rfl)) rfl
theorem jg_131 : Cond.methodLink RX4 1 objectInit ∈ jG := jg_in (jch_2 (List.mem_of_getElem? (i := 19) rfl)) rfl
theorem jg_132 : Cond.fieldLink RX4 9 "FoamHead$Sheets" "bits" "[I" ∈ jG := jg_in (jch_2 (List.mem_of_getElem? (i := 21) rfl)) rfl
theorem jg_133 : Cond.fieldLink RX4 13 "FoamHead$Sheets" "size" "[I" ∈ jG := jg_in (jch_2 (List.mem_of_getElem? (i := 23) rfl)) rfl
theorem jg_134 : Cond.classLink RX4 16 "[[I" ∈ jG := jg_in (jch_2 (List.mem_of_getElem? (i := 20) rfl)) rfl
theorem jg_135 : Cond.fieldLink RX4 18 "FoamHead$Sheets" "numbers" "[[I" ∈ jG := jg_in (jch_2 (List.mem_of_getElem? (i := 25) rfl)) rfl
theorem jg_136 : Cond.methodLink RX4 21 yX4_isOne ∈ jG := jg_in (jch_5 (List.mem_of_getElem? (i := 7) rfl)) rfl
theorem jg_137 : Cond.static yX4_isOne ∈ jG := jg_in (jch_5 (List.mem_of_getElem? (i := 1) rfl)) rfl
theorem jg_138 : Cond.methodLink RX4 25 yJ7_fill_53178 ∈ jG := jg_in (jch_5 (List.mem_of_getElem? (i := 8) rfl)) rfl
theorem jg_139 : Cond.methodLink RX5 3 objectInit ∈ jG := jg_in (jch_1 (List.mem_of_getElem? (i := 100) rfl)) rfl
theorem jg_140 : Cond.fieldLink RX5 9 "FoamHead$Text" "code" "[I" ∈ jG := jg_in (jch_1 (List.mem_of_getElem? (i := 103) rfl)) rfl
theorem jg_141 : Cond.fieldLink RX5 15 "FoamHead$Text" "open" "[I" ∈ jG := jg_in (jch_1 (List.mem_of_getElem? (i := 104) rfl)) rfl
theorem jg_142 : Cond.fieldLink RX5 18 "FoamHead$Text" "size" "I" ∈ jG := jg_in (jch_1 (List.mem_of_getElem? (i := 101) rfl)) rfl
theorem jg_143 : Cond.methodLink RX5 22 arraycopyName ∈ jG := jg_in (jch_3 (List.mem_of_getElem? (i := 231) rfl)) rfl
theorem jg_144 : Cond.methodLink RX5 28 yX5_take ∈ jG := jg_in (jch_4 (List.mem_of_getElem? (i := 118) rfl)) rfl
theorem jg_145 : Cond.instanceMethod yX5_take ∈ jG := jg_in (jch_3 (List.mem_of_getElem? (i := 228) rfl)) rfl
theorem jg_146 : Cond.methodLink RX5 32 yX5_plain ∈ jG := jg_in (jch_2 (List.mem_of_getElem? (i := 156) rfl)) rfl
theorem jg_147 : Cond.static yX5_plain ∈ jG := jg_in (jch_2 (List.mem_of_getElem? (i := 157) rfl)) rfl
theorem jg_148 : Cond.methodLink RX5 36 yX5_ofSign ∈ jG := jg_in (jch_2 (List.mem_of_getElem? (i := 159) rfl)) rfl
theorem jg_149 : Cond.methodLink RX5 40 yX5_worked ∈ jG := jg_in (jch_2 (List.mem_of_getElem? (i := 162) rfl)) rfl
theorem jg_150 : Cond.static yX5_worked ∈ jG := jg_in (jch_2 (List.mem_of_getElem? (i := 163) rfl)) rfl
theorem jg_151 : Cond.methodLink RX6 1 objectInit ∈ jG := jg_in (jch_1 (List.mem_of_getElem? (i := 225) rfl)) rfl
theorem jg_152 : Cond.fieldLink RX6 9 "FoamHead$Voices" "trace" "[I" ∈ jG := jg_in (jch_1 (List.mem_of_getElem? (i := 230) rfl)) rfl
theorem jg_153 : Cond.fieldLink RX6 13 "FoamHead$Voices" "began" "[I" ∈ jG := jg_in (jch_1 (List.mem_of_getElem? (i := 232) rfl)) rfl
theorem jg_154 : Cond.fieldLink RX6 16 "FoamHead$Voices" "parted" "Z" ∈ jG := jg_in (jch_1 (List.mem_of_getElem? (i := 226) rfl)) rfl
theorem jg_155 : Cond.fieldLink RX6 20 "FoamHead$Voices" "beganSize" "I" ∈ jG := jg_in (jch_1 (List.mem_of_getElem? (i := 233) rfl)) rfl
theorem jg_156 : Cond.methodLink RX6 24 yX0_has ∈ jG := jg_in (jch_4 (List.mem_of_getElem? (i := 208) rfl)) rfl
theorem jg_157 : Cond.fieldLink RX6 30 "FoamHead$Voices" "number" "I" ∈ jG := jg_in (jch_1 (List.mem_of_getElem? (i := 234) rfl)) rfl
theorem jg_158 : Cond.fieldLink RX6 33 "FoamHead$Foam" "row" "[I" ∈ jG := jg_in (jch_1 (List.mem_of_getElem? (i := 56) rfl)) rfl
theorem jg_159 : Cond.fieldLink RX6 36 "FoamHead$Voices" "row" "I" ∈ jG := jg_in (jch_1 (List.mem_of_getElem? (i := 235) rfl)) rfl
theorem jg_160 : Cond.fieldLink RX6 38 "FoamHead$Foam" "kind" "[I" ∈ jG := jg_in (jch_1 (List.mem_of_getElem? (i := 46) rfl)) rfl
theorem jg_161 : Cond.fieldLink RX6 41 "FoamHead$Voices" "kind" "I" ∈ jG := jg_in (jch_1 (List.mem_of_getElem? (i := 236) rfl)) rfl
theorem jg_162 : Cond.methodLink RX6 43 yX6_say ∈ jG := jg_in (jch_4 (List.mem_of_getElem? (i := 209) rfl)) rfl
theorem jg_163 : Cond.instanceMethod yX6_say ∈ jG := jg_in (jch_4 (List.mem_of_getElem? (i := 211) rfl)) rfl
theorem jg_164 : Cond.methodLink RX6 47 arraycopyName ∈ jG := jg_in (jch_4 (List.mem_of_getElem? (i := 231) rfl)) rfl
theorem jg_165 : Cond.fieldLink RX6 53 "FoamHead$Voices" "traceSize" "I" ∈ jG := jg_in (jch_1 (List.mem_of_getElem? (i := 228) rfl)) rfl
theorem jg_166 : Cond.fieldLink RX6 56 "FoamHead$Voices" "BODIES" "[I" ∈ jG := jg_in (jch_4 (List.mem_of_getElem? (i := 216) rfl)) rfl
theorem jg_167 : Cond.methodLink RX6 61 yX6_bodyAt ∈ jG := jg_in (jch_4 (List.mem_of_getElem? (i := 213) rfl)) rfl
theorem jg_168 : Cond.static yX6_bodyAt ∈ jG := jg_in (jch_4 (List.mem_of_getElem? (i := 214) rfl)) rfl
theorem jg_169 : Cond.methodLink RX6 65 yX1_above ∈ jG := jg_in (jch_4 (List.mem_of_getElem? (i := 218) rfl)) rfl
theorem jg_170 : Cond.methodLink RX6 69 yX6_speak ∈ jG := jg_in (jch_4 (List.mem_of_getElem? (i := 219) rfl)) rfl
theorem jg_171 : Cond.instanceMethod yX6_speak ∈ jG := jg_in (jch_4 (List.mem_of_getElem? (i := 221) rfl)) rfl
theorem jg_172 : Cond.methodLink RX6 72 yX6_parting ∈ jG := jg_in (jch_4 (List.mem_of_getElem? (i := 223) rfl)) rfl
theorem jg_173 : Cond.instanceMethod yX6_parting ∈ jG := jg_in (jch_4 (List.mem_of_getElem? (i := 225) rfl)) rfl
theorem jg_174 : Cond.methodLink RX7 3 objectInit ∈ jG := jg_in (jch_1 (List.mem_of_getElem? (i := 33) rfl)) rfl
theorem jg_175 : Cond.classLink RX7 9 RX0 ∈ jG := jg_in (jch_1 (List.mem_of_getElem? (i := 34) rfl)) rfl
theorem jg_176 : Cond.instantiable RX0 11 ∈ jG := jg_in (jch_1 (List.mem_of_getElem? (i := 35) rfl)) rfl
theorem jg_177 : Cond.initialized RX0 ∈ jG := jg_in (jch_1 (List.mem_of_getElem? (i := 3) rfl)) rfl
theorem jg_178 : Cond.instanceMethod yX0_init ∈ jG := jg_in (jch_1 (List.mem_of_getElem? (i := 37) rfl)) rfl
theorem jg_179 : Cond.fieldLink RX7 12 "FoamHead$World" "foam" "LFoamHead$Foam;" ∈ jG := jg_in (jch_1 (List.mem_of_getElem? (i := 112) rfl)) rfl
theorem jg_180 : Cond.classLink RX7 18 RX5 ∈ jG := jg_in (jch_1 (List.mem_of_getElem? (i := 94) rfl)) rfl
theorem jg_181 : Cond.instantiable RX5 3 ∈ jG := jg_in (jch_1 (List.mem_of_getElem? (i := 96) rfl)) rfl
theorem jg_182 : Cond.initialized RX5 ∈ jG := jg_in (jch_1 (List.mem_of_getElem? (i := 4) rfl)) rfl
theorem jg_183 : Cond.instanceMethod yX5_init ∈ jG := jg_in (jch_1 (List.mem_of_getElem? (i := 98) rfl)) rfl
theorem jg_184 : Cond.fieldLink RX7 21 "FoamHead$World" "texts" "[LFoamHead$Text;" ∈ jG := jg_in (jch_1 (List.mem_of_getElem? (i := 114) rfl)) rfl
theorem jg_185 : Cond.fieldLink RX7 25 "FoamHead$World" "tape" "[I" ∈ jG := jg_in (jch_1 (List.mem_of_getElem? (i := 116) rfl)) rfl
theorem jg_186 : Cond.fieldLink RX7 29 "FoamHead$World" "waiting" "[I" ∈ jG := jg_in (jch_1 (List.mem_of_getElem? (i := 120) rfl)) rfl
theorem jg_187 : Cond.fieldLink RX7 32 "FoamHead$World" "rate" "I" ∈ jG := jg_in (jch_1 (List.mem_of_getElem? (i := 124) rfl)) rfl
theorem jg_188 : Cond.fieldLink RX7 36 "FoamHead$World" "dryness" "I" ∈ jG := jg_in (jch_1 (List.mem_of_getElem? (i := 126) rfl)) rfl
theorem jg_189 : Cond.fieldLink RX7 39 "FoamHead$World" "odds" "I" ∈ jG := jg_in (jch_1 (List.mem_of_getElem? (i := 128) rfl)) rfl
theorem jg_190 : Cond.fieldLink RX7 42 "FoamHead$World" "z" "I" ∈ jG := jg_in (jch_1 (List.mem_of_getElem? (i := 130) rfl)) rfl
theorem jg_191 : Cond.fieldLink RX7 45 "FoamHead$World" "names" "[I" ∈ jG := jg_in (jch_1 (List.mem_of_getElem? (i := 136) rfl)) rfl
theorem jg_192 : Cond.fieldLink RX7 48 "FoamHead$World" "moved" "[I" ∈ jG := jg_in (jch_1 (List.mem_of_getElem? (i := 137) rfl)) rfl
theorem jg_193 : Cond.methodLink RX7 51 yX0_copyFrom ∈ jG := jg_in (jch_4 (List.mem_of_getElem? (i := 110) rfl)) rfl
theorem jg_194 : Cond.instanceMethod yX0_copyFrom ∈ jG := jg_in (jch_4 (List.mem_of_getElem? (i := 111) rfl)) rfl
theorem jg_195 : Cond.methodLink RX7 55 yX5_copyFrom ∈ jG := jg_in (jch_4 (List.mem_of_getElem? (i := 114) rfl)) rfl
theorem jg_196 : Cond.instanceMethod yX5_copyFrom ∈ jG := jg_in (jch_4 (List.mem_of_getElem? (i := 115) rfl)) rfl
theorem jg_197 : Cond.methodLink RX7 58 arraycopyName ∈ jG := jg_in (jch_4 (List.mem_of_getElem? (i := 119) rfl)) rfl
theorem jg_198 : Cond.fieldLink RX7 64 "FoamHead$World" "tapeSize" "I" ∈ jG := jg_in (jch_1 (List.mem_of_getElem? (i := 118) rfl)) rfl
theorem jg_199 : Cond.fieldLink RX7 67 "FoamHead$World" "waitingSize" "I" ∈ jG := jg_in (jch_1 (List.mem_of_getElem? (i := 122) rfl)) rfl
theorem jg_200 : Cond.fieldLink RX7 70 "FoamHead$World" "ticks" "I" ∈ jG := jg_in (jch_1 (List.mem_of_getElem? (i := 132) rfl)) rfl
theorem jg_201 : Cond.fieldLink RX7 73 "FoamHead$World" "drained" "I" ∈ jG := jg_in (jch_1 (List.mem_of_getElem? (i := 134) rfl)) rfl
theorem jg_202 : Cond.methodLink RX7 76 yX0_make ∈ jG := jg_in (jch_2 (List.mem_of_getElem? (i := 79) rfl)) rfl
theorem jg_203 : Cond.instanceMethod yX0_make ∈ jG := jg_in (jch_2 (List.mem_of_getElem? (i := 80) rfl)) rfl
theorem jg_204 : Cond.constantLong RX7 80 (255 : Int64) ∈ jG := jg_in (jch_3 (List.mem_of_getElem? (i := 76) rfl)) rfl
theorem jg_205 : Cond.methodLink RX7 82 yX0_has ∈ jG := jg_in (jch_2 (List.mem_of_getElem? (i := 133) rfl)) rfl
theorem jg_206 : Cond.fieldLink RX7 86 "FoamHead$Foam" "kind" "[I" ∈ jG := jg_in (jch_1 (List.mem_of_getElem? (i := 47) rfl)) rfl
theorem jg_207 : Cond.methodLink RX7 89 yX1_dry ∈ jG := jg_in (jch_2 (List.mem_of_getElem? (i := 134) rfl)) rfl
theorem jg_208 : Cond.static yX1_dry ∈ jG := jg_in (jch_2 (List.mem_of_getElem? (i := 135) rfl)) rfl
theorem jg_209 : Cond.methodLink RX7 95 yX5_isTold ∈ jG := jg_in (jch_2 (List.mem_of_getElem? (i := 144) rfl)) rfl
theorem jg_210 : Cond.instanceMethod yX5_isTold ∈ jG := jg_in (jch_2 (List.mem_of_getElem? (i := 145) rfl)) rfl
theorem jg_211 : Cond.fieldLink RX7 99 "FoamHead$Foam" "sides" "[I" ∈ jG := jg_in (jch_1 (List.mem_of_getElem? (i := 61) rfl)) rfl
theorem jg_212 : Cond.fieldLink RX7 102 "FoamHead$Foam" "gas" "[I" ∈ jG := jg_in (jch_1 (List.mem_of_getElem? (i := 51) rfl)) rfl
theorem jg_213 : Cond.methodLink RX7 105 yX7_name ∈ jG := jg_in (jch_2 (List.mem_of_getElem? (i := 148) rfl)) rfl
theorem jg_214 : Cond.instanceMethod yX7_name ∈ jG := jg_in (jch_2 (List.mem_of_getElem? (i := 150) rfl)) rfl
theorem jg_215 : Cond.methodLink RX7 109 yX5_value ∈ jG := jg_in (jch_2 (List.mem_of_getElem? (i := 152) rfl)) rfl
theorem jg_216 : Cond.instanceMethod yX5_value ∈ jG := jg_in (jch_2 (List.mem_of_getElem? (i := 153) rfl)) rfl
theorem jg_217 : Cond.fieldLink RX7 113 "FoamHead$Foam" "water" "[I" ∈ jG := jg_in (jch_1 (List.mem_of_getElem? (i := 54) rfl)) rfl
theorem jg_218 : Cond.methodLink RX7 116 yJ9_min_7cf53 ∈ jG := jg_in (jch_4 (List.mem_of_getElem? (i := 45) rfl)) rfl
theorem jg_219 : Cond.methodLink RX7 121 yJ9_max_7cf53 ∈ jG := jg_in (jch_4 (List.mem_of_getElem? (i := 79) rfl)) rfl
theorem jg_220 : Cond.methodLink RX7 124 yX7_dry ∈ jG := jg_in (jch_4 (List.mem_of_getElem? (i := 80) rfl)) rfl
theorem jg_221 : Cond.instanceMethod yX7_dry ∈ jG := jg_in (jch_2 (List.mem_of_getElem? (i := 130) rfl)) rfl
theorem jg_222 : Cond.fieldLink RX7 127 "FoamHead$Foam" "row" "[I" ∈ jG := jg_in (jch_1 (List.mem_of_getElem? (i := 58) rfl)) rfl
theorem jg_223 : Cond.methodLink RX7 130 yX7_law ∈ jG := jg_in (jch_4 (List.mem_of_getElem? (i := 9) rfl)) rfl
theorem jg_224 : Cond.instanceMethod yX7_law ∈ jG := jg_in (jch_4 (List.mem_of_getElem? (i := 11) rfl)) rfl
theorem jg_225 : Cond.constantLong RX7 133 (-9999 : Int64) ∈ jG := jg_in (jch_4 (List.mem_of_getElem? (i := 13) rfl)) rfl
theorem jg_226 : Cond.constantLong RX7 135 (9999 : Int64) ∈ jG := jg_in (jch_4 (List.mem_of_getElem? (i := 14) rfl)) rfl
theorem jg_227 : Cond.methodLink RX7 137 yJ9_min_f86c9 ∈ jG := jg_in (jch_4 (List.mem_of_getElem? (i := 15) rfl)) rfl
theorem jg_228 : Cond.static yJ9_min_f86c9 ∈ jG := jg_in (jch_4 (List.mem_of_getElem? (i := 16) rfl)) rfl
theorem jg_229 : Cond.methodLink RX7 140 yJ9_max_f86c9 ∈ jG := jg_in (jch_4 (List.mem_of_getElem? (i := 18) rfl)) rfl
theorem jg_230 : Cond.static yJ9_max_f86c9 ∈ jG := jg_in (jch_4 (List.mem_of_getElem? (i := 19) rfl)) rfl
theorem jg_231 : Cond.methodLink RX7 142 yX1_lets ∈ jG := jg_in (jch_4 (List.mem_of_getElem? (i := 21) rfl)) rfl
theorem jg_232 : Cond.static yX1_lets ∈ jG := jg_in (jch_2 (List.mem_of_getElem? (i := 138) rfl)) rfl
theorem jg_233 : Cond.constantLong RX7 145 (144 : Int64) ∈ jG := jg_in (jch_4 (List.mem_of_getElem? (i := 22) rfl)) rfl
theorem jg_234 : Cond.methodLink RX7 147 yX7_passGas ∈ jG := jg_in (jch_4 (List.mem_of_getElem? (i := 31) rfl)) rfl
theorem jg_235 : Cond.instanceMethod yX7_passGas ∈ jG := jg_in (jch_4 (List.mem_of_getElem? (i := 33) rfl)) rfl
theorem jg_236 : Cond.methodLink RX7 150 yX7_runDown ∈ jG := jg_in (jch_4 (List.mem_of_getElem? (i := 46) rfl)) rfl
theorem jg_237 : Cond.instanceMethod yX7_runDown ∈ jG := jg_in (jch_4 (List.mem_of_getElem? (i := 48) rfl)) rfl
theorem jg_238 : Cond.methodLink RX7 153 yX7_burstDry ∈ jG := jg_in (jch_4 (List.mem_of_getElem? (i := 71) rfl)) rfl
theorem jg_239 : Cond.instanceMethod yX7_burstDry ∈ jG := jg_in (jch_4 (List.mem_of_getElem? (i := 73) rfl)) rfl
theorem jg_240 : Cond.methodLink RX7 156 yX7_loseEmpty ∈ jG := jg_in (jch_4 (List.mem_of_getElem? (i := 88) rfl)) rfl
theorem jg_241 : Cond.instanceMethod yX7_loseEmpty ∈ jG := jg_in (jch_4 (List.mem_of_getElem? (i := 90) rfl)) rfl
theorem jg_242 : Cond.methodLink RX7 159 yX0_isWall ∈ jG := jg_in (jch_4 (List.mem_of_getElem? (i := 35) rfl)) rfl
theorem jg_243 : Cond.methodLink RX7 163 yX7_passing ∈ jG := jg_in (jch_4 (List.mem_of_getElem? (i := 36) rfl)) rfl
theorem jg_244 : Cond.instanceMethod yX7_passing ∈ jG := jg_in (jch_4 (List.mem_of_getElem? (i := 6) rfl)) rfl
theorem jg_245 : Cond.methodLink RX7 166 yJ9_abs_0f7a4 ∈ jG := jg_in (jch_4 (List.mem_of_getElem? (i := 37) rfl)) rfl
theorem jg_246 : Cond.static yJ9_abs_0f7a4 ∈ jG := jg_in (jch_4 (List.mem_of_getElem? (i := 38) rfl)) rfl
theorem jg_247 : Cond.methodLink RX7 169 yX7_give ∈ jG := jg_in (jch_4 (List.mem_of_getElem? (i := 40) rfl)) rfl
theorem jg_248 : Cond.instanceMethod yX7_give ∈ jG := jg_in (jch_4 (List.mem_of_getElem? (i := 42) rfl)) rfl
theorem jg_249 : Cond.constant RX7 172 (99999 : Int32) ∈ jG := jg_in (jch_4 (List.mem_of_getElem? (i := 44) rfl)) rfl
theorem jg_250 : Cond.methodLink RX7 173 yJ7_fill_53178 ∈ jG := jg_in (jch_4 (List.mem_of_getElem? (i := 50) rfl)) rfl
theorem jg_251 : Cond.methodLink RX7 179 yX7_giveWater ∈ jG := jg_in (jch_4 (List.mem_of_getElem? (i := 51) rfl)) rfl
theorem jg_252 : Cond.instanceMethod yX7_giveWater ∈ jG := jg_in (jch_4 (List.mem_of_getElem? (i := 53) rfl)) rfl
theorem jg_253 : Cond.methodLink RX7 183 yX7_drain ∈ jG := jg_in (jch_4 (List.mem_of_getElem? (i := 66) rfl)) rfl
theorem jg_254 : Cond.instanceMethod yX7_drain ∈ jG := jg_in (jch_4 (List.mem_of_getElem? (i := 68) rfl)) rfl
theorem jg_255 : Cond.methodLink RX7 186 yX1_isUnder ∈ jG := jg_in (jch_4 (List.mem_of_getElem? (i := 55) rfl)) rfl
theorem jg_256 : Cond.static yX1_isUnder ∈ jG := jg_in (jch_2 (List.mem_of_getElem? (i := 173) rfl)) rfl
theorem jg_257 : Cond.methodLink RX7 189 yX7_bitsBelow ∈ jG := jg_in (jch_4 (List.mem_of_getElem? (i := 56) rfl)) rfl
theorem jg_258 : Cond.instanceMethod yX7_bitsBelow ∈ jG := jg_in (jch_4 (List.mem_of_getElem? (i := 58) rfl)) rfl
theorem jg_259 : Cond.methodLink RX7 192 yJ6_bitCount_0f7a4 ∈ jG := jg_in (jch_4 (List.mem_of_getElem? (i := 64) rfl)) rfl
theorem jg_260 : Cond.methodLink RX7 197 yX0_glasses ∈ jG := jg_in (jch_4 (List.mem_of_getElem? (i := 65) rfl)) rfl
theorem jg_261 : Cond.instanceMethod yX0_glasses ∈ jG := jg_in (jch_2 (List.mem_of_getElem? (i := 115) rfl)) rfl
theorem jg_262 : Cond.methodLink RX7 200 yX0_bitsBeside ∈ jG := jg_in (jch_4 (List.mem_of_getElem? (i := 60) rfl)) rfl
theorem jg_263 : Cond.constantLong RX7 203 (1999999999 : Int64) ∈ jG := jg_in (jch_4 (List.mem_of_getElem? (i := 70) rfl)) rfl
theorem jg_264 : Cond.methodLink RX7 205 yX7_burstOf ∈ jG := jg_in (jch_4 (List.mem_of_getElem? (i := 75) rfl)) rfl
theorem jg_265 : Cond.instanceMethod yX7_burstOf ∈ jG := jg_in (jch_4 (List.mem_of_getElem? (i := 77) rfl)) rfl
theorem jg_266 : Cond.methodLink RX7 208 yX7_drawn ∈ jG := jg_in (jch_4 (List.mem_of_getElem? (i := 81) rfl)) rfl
theorem jg_267 : Cond.instanceMethod yX7_drawn ∈ jG := jg_in (jch_4 (List.mem_of_getElem? (i := 83) rfl)) rfl
theorem jg_268 : Cond.methodLink RX7 211 yX0_canBurst ∈ jG := jg_in (jch_4 (List.mem_of_getElem? (i := 86) rfl)) rfl
theorem jg_269 : Cond.instanceMethod yX0_canBurst ∈ jG := jg_in (jch_3 (List.mem_of_getElem? (i := 2) rfl)) rfl
theorem jg_270 : Cond.methodLink RX7 214 yX0_unite ∈ jG := jg_in (jch_4 (List.mem_of_getElem? (i := 87) rfl)) rfl
theorem jg_271 : Cond.instanceMethod yX0_unite ∈ jG := jg_in (jch_3 (List.mem_of_getElem? (i := 46) rfl)) rfl
theorem jg_272 : Cond.constant RX7 218 (1103515245 : Int32) ∈ jG := jg_in (jch_4 (List.mem_of_getElem? (i := 85) rfl)) rfl
theorem jg_273 : Cond.methodLink RX7 219 yX0_canVanish ∈ jG := jg_in (jch_4 (List.mem_of_getElem? (i := 92) rfl)) rfl
theorem jg_274 : Cond.instanceMethod yX0_canVanish ∈ jG := jg_in (jch_3 (List.mem_of_getElem? (i := 10) rfl)) rfl
theorem jg_275 : Cond.methodLink RX7 222 yX0_lose ∈ jG := jg_in (jch_4 (List.mem_of_getElem? (i := 93) rfl)) rfl
theorem jg_276 : Cond.instanceMethod yX0_lose ∈ jG := jg_in (jch_3 (List.mem_of_getElem? (i := 34) rfl)) rfl
theorem jg_277 : Cond.methodLink RX7 225 yX7_turnFirst ∈ jG := jg_in (jch_4 (List.mem_of_getElem? (i := 94) rfl)) rfl
theorem jg_278 : Cond.instanceMethod yX7_turnFirst ∈ jG := jg_in (jch_4 (List.mem_of_getElem? (i := 96) rfl)) rfl
theorem jg_279 : Cond.methodLink RX7 228 yX0_sidesOf ∈ jG := jg_in (jch_4 (List.mem_of_getElem? (i := 98) rfl)) rfl
theorem jg_280 : Cond.methodLink RX7 231 yX0_toldAt ∈ jG := jg_in (jch_4 (List.mem_of_getElem? (i := 99) rfl)) rfl
theorem jg_281 : Cond.instanceMethod yX0_toldAt ∈ jG := jg_in (jch_2 (List.mem_of_getElem? (i := 194) rfl)) rfl
theorem jg_282 : Cond.methodLink RX7 234 yX0_canTurn ∈ jG := jg_in (jch_4 (List.mem_of_getElem? (i := 100) rfl)) rfl
theorem jg_283 : Cond.instanceMethod yX0_canTurn ∈ jG := jg_in (jch_2 (List.mem_of_getElem? (i := 231) rfl)) rfl
theorem jg_284 : Cond.methodLink RX7 237 yX0_turnOver ∈ jG := jg_in (jch_4 (List.mem_of_getElem? (i := 101) rfl)) rfl
theorem jg_285 : Cond.instanceMethod yX0_turnOver ∈ jG := jg_in (jch_3 (List.mem_of_getElem? (i := 18) rfl)) rfl
theorem jg_286 : Cond.methodLink RX8 1 objectInit ∈ jG := jg_in (jch_1 (List.mem_of_getElem? (i := 25) rfl)) rfl
theorem jg_287 : Cond.classLink RX8 7 RX7 ∈ jG := jg_in (jch_1 (List.mem_of_getElem? (i := 28) rfl)) rfl
theorem jg_288 : Cond.instantiable RX7 14 ∈ jG := jg_in (jch_1 (List.mem_of_getElem? (i := 29) rfl)) rfl
theorem jg_289 : Cond.initialized RX7 ∈ jG := jg_in (jch_1 (List.mem_of_getElem? (i := 2) rfl)) rfl
theorem jg_290 : Cond.instanceMethod yX7_init ∈ jG := jg_in (jch_1 (List.mem_of_getElem? (i := 31) rfl)) rfl
theorem jg_291 : Cond.fieldLink RX8 10 "FoamHead" "now" "LFoamHead$World;" ∈ jG := jg_in (jch_2 (List.mem_of_getElem? (i := 34) rfl)) rfl
theorem jg_292 : Cond.fieldLink RX8 16 "FoamHead" "kept" "LFoamHead$World;" ∈ jG := jg_in (jch_2 (List.mem_of_getElem? (i := 35) rfl)) rfl
theorem jg_293 : Cond.fieldLink RX8 19 "FoamHead" "spare" "LFoamHead$World;" ∈ jG := jg_in (jch_2 (List.mem_of_getElem? (i := 36) rfl)) rfl
theorem jg_294 : Cond.classLink RX8 22 RX2 ∈ jG := jg_in (jch_1 (List.mem_of_getElem? (i := 167) rfl)) rfl
theorem jg_295 : Cond.instantiable RX2 7 ∈ jG := jg_in (jch_1 (List.mem_of_getElem? (i := 168) rfl)) rfl
theorem jg_296 : Cond.initialized RX2 ∈ jG := jg_in (jch_1 (List.mem_of_getElem? (i := 5) rfl)) rfl
theorem jg_297 : Cond.instanceMethod yX2_init ∈ jG := jg_in (jch_1 (List.mem_of_getElem? (i := 170) rfl)) rfl
theorem jg_298 : Cond.fieldLink RX8 25 "FoamHead" "reader" "LFoamHead$Reader;" ∈ jG := jg_in (jch_2 (List.mem_of_getElem? (i := 37) rfl)) rfl
theorem jg_299 : Cond.classLink RX8 29 RX3 ∈ jG := jg_in (jch_1 (List.mem_of_getElem? (i := 200) rfl)) rfl
theorem jg_300 : Cond.instantiable RX3 4 ∈ jG := jg_in (jch_1 (List.mem_of_getElem? (i := 201) rfl)) rfl
theorem jg_301 : Cond.initialized RX3 ∈ jG := jg_in (jch_1 (List.mem_of_getElem? (i := 6) rfl)) rfl
theorem jg_302 : Cond.instanceMethod yX3_init ∈ jG := jg_in (jch_1 (List.mem_of_getElem? (i := 203) rfl)) rfl
theorem jg_303 : Cond.fieldLink RX8 32 "FoamHead" "search" "LFoamHead$Search;" ∈ jG := jg_in (jch_2 (List.mem_of_getElem? (i := 38) rfl)) rfl
theorem jg_304 : Cond.classLink RX8 36 RX6 ∈ jG := jg_in (jch_1 (List.mem_of_getElem? (i := 220) rfl)) rfl
theorem jg_305 : Cond.instantiable RX6 8 ∈ jG := jg_in (jch_1 (List.mem_of_getElem? (i := 221) rfl)) rfl
theorem jg_306 : Cond.initialized RX6 ∈ jG := jg_in (jch_1 (List.mem_of_getElem? (i := 7) rfl)) rfl
theorem jg_307 : Cond.instanceMethod yX6_init ∈ jG := jg_in (jch_1 (List.mem_of_getElem? (i := 223) rfl)) rfl
theorem jg_308 : Cond.fieldLink RX8 39 "FoamHead" "voices" "LFoamHead$Voices;" ∈ jG := jg_in (jch_2 (List.mem_of_getElem? (i := 39) rfl)) rfl
theorem jg_309 : Cond.classLink RX8 43 RX4 ∈ jG := jg_in (jch_2 (List.mem_of_getElem? (i := 14) rfl)) rfl
theorem jg_310 : Cond.instantiable RX4 3 ∈ jG := jg_in (jch_2 (List.mem_of_getElem? (i := 15) rfl)) rfl
theorem jg_311 : Cond.initialized RX4 ∈ jG := jg_in (jch_1 (List.mem_of_getElem? (i := 8) rfl)) rfl
theorem jg_312 : Cond.instanceMethod yX4_init ∈ jG := jg_in (jch_2 (List.mem_of_getElem? (i := 17) rfl)) rfl
theorem jg_313 : Cond.fieldLink RX8 46 "FoamHead" "sheets" "LFoamHead$Sheets;" ∈ jG := jg_in (jch_2 (List.mem_of_getElem? (i := 40) rfl)) rfl
theorem jg_314 : Cond.fieldLink RX8 50 "FoamHead" "errors" "[I" ∈ jG := jg_in (jch_2 (List.mem_of_getElem? (i := 41) rfl)) rfl
theorem jg_315 : Cond.constant RX8 54 (-1000000 : Int32) ∈ jG := jg_in (jch_2 (List.mem_of_getElem? (i := 74) rfl)) rfl
theorem jg_316 : Cond.methodLink RX8 55 yX8_within ∈ jG := jg_in (jch_2 (List.mem_of_getElem? (i := 66) rfl)) rfl
theorem jg_317 : Cond.static yX8_within ∈ jG := jg_in (jch_2 (List.mem_of_getElem? (i := 67) rfl)) rfl
theorem jg_318 : Cond.constant RX8 59 (99999 : Int32) ∈ jG := jg_in (jch_2 (List.mem_of_getElem? (i := 69) rfl)) rfl
theorem jg_319 : Cond.methodLink RX8 60 yX8_no ∈ jG := jg_in (jch_2 (List.mem_of_getElem? (i := 70) rfl)) rfl
theorem jg_320 : Cond.instanceMethod yX8_no ∈ jG := jg_in (jch_2 (List.mem_of_getElem? (i := 72) rfl)) rfl
theorem jg_321 : Cond.methodLink RX8 64 yX7_startAnew ∈ jG := jg_in (jch_2 (List.mem_of_getElem? (i := 75) rfl)) rfl
theorem jg_322 : Cond.instanceMethod yX7_startAnew ∈ jG := jg_in (jch_2 (List.mem_of_getElem? (i := 76) rfl)) rfl
theorem jg_323 : Cond.fieldLink RX8 68 "FoamHead$World" "foam" "LFoamHead$Foam;" ∈ jG := jg_in (jch_1 (List.mem_of_getElem? (i := 113) rfl)) rfl
theorem jg_324 : Cond.methodLink RX8 72 yX0_howMany ∈ jG := jg_in (jch_2 (List.mem_of_getElem? (i := 96) rfl)) rfl
theorem jg_325 : Cond.instanceMethod yX0_howMany ∈ jG := jg_in (jch_2 (List.mem_of_getElem? (i := 97) rfl)) rfl
theorem jg_326 : Cond.methodLink RX8 78 yX0_has ∈ jG := jg_in (jch_2 (List.mem_of_getElem? (i := 110) rfl)) rfl
theorem jg_327 : Cond.fieldLink RX8 82 "FoamHead$Foam" "kind" "[I" ∈ jG := jg_in (jch_1 (List.mem_of_getElem? (i := 48) rfl)) rfl
theorem jg_328 : Cond.fieldLink RX8 85 "FoamHead$Foam" "gas" "[I" ∈ jG := jg_in (jch_1 (List.mem_of_getElem? (i := 50) rfl)) rfl
theorem jg_329 : Cond.fieldLink RX8 88 "FoamHead$Foam" "water" "[I" ∈ jG := jg_in (jch_1 (List.mem_of_getElem? (i := 53) rfl)) rfl
theorem jg_330 : Cond.fieldLink RX8 91 "FoamHead$Foam" "row" "[I" ∈ jG := jg_in (jch_1 (List.mem_of_getElem? (i := 57) rfl)) rfl
theorem jg_331 : Cond.fieldLink RX8 94 "FoamHead$Foam" "sides" "[I" ∈ jG := jg_in (jch_1 (List.mem_of_getElem? (i := 60) rfl)) rfl
theorem jg_332 : Cond.methodLink RX8 97 yX0_glasses ∈ jG := jg_in (jch_2 (List.mem_of_getElem? (i := 114) rfl)) rfl
theorem jg_333 : Cond.methodLink RX8 100 yX7_dry ∈ jG := jg_in (jch_2 (List.mem_of_getElem? (i := 129) rfl)) rfl
theorem jg_334 : Cond.methodLink RX8 103 yX1_lets ∈ jG := jg_in (jch_2 (List.mem_of_getElem? (i := 137) rfl)) rfl
theorem jg_335 : Cond.methodLink RX8 108 yX7_mark ∈ jG := jg_in (jch_2 (List.mem_of_getElem? (i := 140) rfl)) rfl
theorem jg_336 : Cond.instanceMethod yX7_mark ∈ jG := jg_in (jch_2 (List.mem_of_getElem? (i := 141) rfl)) rfl
theorem jg_337 : Cond.methodLink RX8 111 yX1_isOne ∈ jG := jg_in (jch_2 (List.mem_of_getElem? (i := 169) rfl)) rfl
theorem jg_338 : Cond.methodLink RX8 114 yX1_isUnder ∈ jG := jg_in (jch_2 (List.mem_of_getElem? (i := 172) rfl)) rfl
theorem jg_339 : Cond.methodLink RX8 118 yX0_toldAt ∈ jG := jg_in (jch_2 (List.mem_of_getElem? (i := 193) rfl)) rfl
theorem jg_340 : Cond.methodLink RX8 122 yX8_areBubbles ∈ jG := jg_in (jch_2 (List.mem_of_getElem? (i := 201) rfl)) rfl
theorem jg_341 : Cond.instanceMethod yX8_areBubbles ∈ jG := jg_in (jch_2 (List.mem_of_getElem? (i := 203) rfl)) rfl
theorem jg_342 : Cond.methodLink RX8 125 yX0_isWall ∈ jG := jg_in (jch_2 (List.mem_of_getElem? (i := 205) rfl)) rfl
theorem jg_343 : Cond.methodLink RX8 128 yX0_aheadOf ∈ jG := jg_in (jch_2 (List.mem_of_getElem? (i := 218) rfl)) rfl
theorem jg_344 : Cond.methodLink RX8 131 yX0_behind ∈ jG := jg_in (jch_2 (List.mem_of_getElem? (i := 222) rfl)) rfl
theorem jg_345 : Cond.methodLink RX8 134 yX0_canTurn ∈ jG := jg_in (jch_2 (List.mem_of_getElem? (i := 230) rfl)) rfl
theorem jg_346 : Cond.methodLink RX8 137 yX0_canBurst ∈ jG := jg_in (jch_3 (List.mem_of_getElem? (i := 1) rfl)) rfl
theorem jg_347 : Cond.methodLink RX8 140 yX0_canVanish ∈ jG := jg_in (jch_3 (List.mem_of_getElem? (i := 9) rfl)) rfl
theorem jg_348 : Cond.methodLink RX8 143 yX0_turnOver ∈ jG := jg_in (jch_3 (List.mem_of_getElem? (i := 17) rfl)) rfl
theorem jg_349 : Cond.methodLink RX8 147 yX0_lose ∈ jG := jg_in (jch_3 (List.mem_of_getElem? (i := 33) rfl)) rfl
theorem jg_350 : Cond.methodLink RX8 151 yX0_unite ∈ jG := jg_in (jch_3 (List.mem_of_getElem? (i := 45) rfl)) rfl
theorem jg_351 : Cond.methodLink RX8 154 yJ9_min_7cf53 ∈ jG := jg_in (jch_3 (List.mem_of_getElem? (i := 67) rfl)) rfl
theorem jg_352 : Cond.fieldLink RX8 159 "FoamHead$World" "tapeSize" "I" ∈ jG := jg_in (jch_1 (List.mem_of_getElem? (i := 119) rfl)) rfl
theorem jg_353 : Cond.methodLink RX8 163 yX7_takeBytes ∈ jG := jg_in (jch_3 (List.mem_of_getElem? (i := 72) rfl)) rfl
theorem jg_354 : Cond.instanceMethod yX7_takeBytes ∈ jG := jg_in (jch_3 (List.mem_of_getElem? (i := 73) rfl)) rfl
theorem jg_355 : Cond.fieldLink RX8 167 "FoamHead$World" "tape" "[I" ∈ jG := jg_in (jch_1 (List.mem_of_getElem? (i := 117) rfl)) rfl
theorem jg_356 : Cond.methodLink RX8 170 yX2_read ∈ jG := jg_in (jch_3 (List.mem_of_getElem? (i := 81) rfl)) rfl
theorem jg_357 : Cond.instanceMethod yX2_read ∈ jG := jg_in (jch_3 (List.mem_of_getElem? (i := 82) rfl)) rfl
theorem jg_358 : Cond.fieldLink RX8 174 "FoamHead$Reader" "place" "I" ∈ jG := jg_in (jch_1 (List.mem_of_getElem? (i := 175) rfl)) rfl
theorem jg_359 : Cond.fieldLink RX8 177 "FoamHead$World" "texts" "[LFoamHead$Text;" ∈ jG := jg_in (jch_1 (List.mem_of_getElem? (i := 115) rfl)) rfl
theorem jg_360 : Cond.fieldLink RX8 181 "FoamHead$Reader" "code" "[I" ∈ jG := jg_in (jch_1 (List.mem_of_getElem? (i := 179) rfl)) rfl
theorem jg_361 : Cond.fieldLink RX8 184 "FoamHead$Reader" "codes" "I" ∈ jG := jg_in (jch_1 (List.mem_of_getElem? (i := 177) rfl)) rfl
theorem jg_362 : Cond.methodLink RX8 187 yX5_take ∈ jG := jg_in (jch_3 (List.mem_of_getElem? (i := 227) rfl)) rfl
theorem jg_363 : Cond.methodLink RX8 193 yX5_isTold ∈ jG := jg_in (jch_3 (List.mem_of_getElem? (i := 236) rfl)) rfl
theorem jg_364 : Cond.fieldLink RX8 197 "FoamHead$Text" "size" "I" ∈ jG := jg_in (jch_1 (List.mem_of_getElem? (i := 102) rfl)) rfl
theorem jg_365 : Cond.fieldLink RX8 200 "FoamHead$World" "rate" "I" ∈ jG := jg_in (jch_1 (List.mem_of_getElem? (i := 125) rfl)) rfl
theorem jg_366 : Cond.fieldLink RX8 203 "FoamHead$World" "dryness" "I" ∈ jG := jg_in (jch_1 (List.mem_of_getElem? (i := 127) rfl)) rfl
theorem jg_367 : Cond.fieldLink RX8 206 "FoamHead$World" "odds" "I" ∈ jG := jg_in (jch_1 (List.mem_of_getElem? (i := 129) rfl)) rfl
theorem jg_368 : Cond.methodLink RX8 209 yX7_passing ∈ jG := jg_in (jch_4 (List.mem_of_getElem? (i := 5) rfl)) rfl
theorem jg_369 : Cond.fieldLink RX8 212 "FoamHead$World" "ticks" "I" ∈ jG := jg_in (jch_1 (List.mem_of_getElem? (i := 133) rfl)) rfl
theorem jg_370 : Cond.methodLink RX8 215 yX7_goOn ∈ jG := jg_in (jch_4 (List.mem_of_getElem? (i := 27) rfl)) rfl
theorem jg_371 : Cond.instanceMethod yX7_goOn ∈ jG := jg_in (jch_4 (List.mem_of_getElem? (i := 28) rfl)) rfl
theorem jg_372 : Cond.methodLink RX8 218 yX7_copyFrom ∈ jG := jg_in (jch_4 (List.mem_of_getElem? (i := 106) rfl)) rfl
theorem jg_373 : Cond.instanceMethod yX7_copyFrom ∈ jG := jg_in (jch_4 (List.mem_of_getElem? (i := 107) rfl)) rfl
theorem jg_374 : Cond.fieldLink RX8 222 "FoamHead$World" "z" "I" ∈ jG := jg_in (jch_1 (List.mem_of_getElem? (i := 131) rfl)) rfl
theorem jg_375 : Cond.methodLink RX8 225 yX0_together ∈ jG := jg_in (jch_4 (List.mem_of_getElem? (i := 128) rfl)) rfl
theorem jg_376 : Cond.instanceMethod yX0_together ∈ jG := jg_in (jch_4 (List.mem_of_getElem? (i := 129) rfl)) rfl
theorem jg_377 : Cond.fieldLink RX8 229 "FoamHead$World" "drained" "I" ∈ jG := jg_in (jch_1 (List.mem_of_getElem? (i := 135) rfl)) rfl
theorem jg_378 : Cond.fieldLink RX8 232 "FoamHead$Foam" "turned" "I" ∈ jG := jg_in (jch_1 (List.mem_of_getElem? (i := 63) rfl)) rfl
theorem jg_379 : Cond.fieldLink RX8 235 "FoamHead$Foam" "vanished" "I" ∈ jG := jg_in (jch_1 (List.mem_of_getElem? (i := 65) rfl)) rfl
theorem jg_380 : Cond.fieldLink RX8 238 "FoamHead$Foam" "bursts" "I" ∈ jG := jg_in (jch_1 (List.mem_of_getElem? (i := 67) rfl)) rfl
theorem jg_381 : Cond.methodLink RX8 241 yX0_sidesBeside ∈ jG := jg_in (jch_4 (List.mem_of_getElem? (i := 144) rfl)) rfl
theorem jg_382 : Cond.instanceMethod yX0_sidesBeside ∈ jG := jg_in (jch_4 (List.mem_of_getElem? (i := 145) rfl)) rfl
theorem jg_383 : Cond.methodLink RX8 244 yX3_look ∈ jG := jg_in (jch_4 (List.mem_of_getElem? (i := 156) rfl)) rfl
theorem jg_384 : Cond.instanceMethod yX3_look ∈ jG := jg_in (jch_4 (List.mem_of_getElem? (i := 157) rfl)) rfl
theorem jg_385 : Cond.methodLink RX8 248 yX3_wallsBetween ∈ jG := jg_in (jch_4 (List.mem_of_getElem? (i := 161) rfl)) rfl
theorem jg_386 : Cond.instanceMethod yX3_wallsBetween ∈ jG := jg_in (jch_4 (List.mem_of_getElem? (i := 162) rfl)) rfl
theorem jg_387 : Cond.methodLink RX8 251 yX3_canPaint ∈ jG := jg_in (jch_4 (List.mem_of_getElem? (i := 173) rfl)) rfl
theorem jg_388 : Cond.instanceMethod yX3_canPaint ∈ jG := jg_in (jch_4 (List.mem_of_getElem? (i := 174) rfl)) rfl
theorem jg_389 : Cond.fieldLink RX8 254 "FoamHead$Search" "colours" "[I" ∈ jG := jg_in (jch_1 (List.mem_of_getElem? (i := 207) rfl)) rfl
theorem jg_390 : Cond.methodLink RX8 257 yX3_mostApart ∈ jG := jg_in (jch_4 (List.mem_of_getElem? (i := 187) rfl)) rfl
theorem jg_391 : Cond.instanceMethod yX3_mostApart ∈ jG := jg_in (jch_4 (List.mem_of_getElem? (i := 188) rfl)) rfl
theorem jg_392 : Cond.methodLink RX8 260 yJ6_bitCount_0f7a4 ∈ jG := jg_in (jch_4 (List.mem_of_getElem? (i := 195) rfl)) rfl
theorem jg_393 : Cond.methodLink RX8 265 yX6_answer ∈ jG := jg_in (jch_4 (List.mem_of_getElem? (i := 204) rfl)) rfl
theorem jg_394 : Cond.instanceMethod yX6_answer ∈ jG := jg_in (jch_4 (List.mem_of_getElem? (i := 205) rfl)) rfl
theorem jg_395 : Cond.fieldLink RX8 269 "FoamHead$Voices" "parted" "Z" ∈ jG := jg_in (jch_1 (List.mem_of_getElem? (i := 227) rfl)) rfl
theorem jg_396 : Cond.methodLink RX8 273 yX6_keepTrace ∈ jG := jg_in (jch_4 (List.mem_of_getElem? (i := 227) rfl)) rfl
theorem jg_397 : Cond.instanceMethod yX6_keepTrace ∈ jG := jg_in (jch_4 (List.mem_of_getElem? (i := 228) rfl)) rfl
theorem jg_398 : Cond.fieldLink RX8 276 "FoamHead$Voices" "traceSize" "I" ∈ jG := jg_in (jch_1 (List.mem_of_getElem? (i := 229) rfl)) rfl
theorem jg_399 : Cond.fieldLink RX8 279 "FoamHead$Voices" "trace" "[I" ∈ jG := jg_in (jch_1 (List.mem_of_getElem? (i := 231) rfl)) rfl
theorem jg_400 : Cond.methodLink RX8 282 yX4_isOne ∈ jG := jg_in (jch_5 (List.mem_of_getElem? (i := 0) rfl)) rfl
theorem jg_401 : Cond.methodLink RX8 283 yX4_lay ∈ jG := jg_in (jch_5 (List.mem_of_getElem? (i := 3) rfl)) rfl
theorem jg_402 : Cond.instanceMethod yX4_lay ∈ jG := jg_in (jch_5 (List.mem_of_getElem? (i := 4) rfl)) rfl
theorem jg_403 : Cond.fieldLink RX8 286 "FoamHead$Sheets" "bits" "[I" ∈ jG := jg_in (jch_2 (List.mem_of_getElem? (i := 22) rfl)) rfl
theorem jg_404 : Cond.fieldLink RX8 289 "FoamHead$Sheets" "size" "[I" ∈ jG := jg_in (jch_2 (List.mem_of_getElem? (i := 24) rfl)) rfl
theorem jg_405 : Cond.methodLink RX8 291 yX4_set ∈ jG := jg_in (jch_5 (List.mem_of_getElem? (i := 13) rfl)) rfl
theorem jg_406 : Cond.instanceMethod yX4_set ∈ jG := jg_in (jch_5 (List.mem_of_getElem? (i := 14) rfl)) rfl
theorem jg_407 : Cond.methodLink RX8 294 yX4_haveRun ∈ jG := jg_in (jch_5 (List.mem_of_getElem? (i := 21) rfl)) rfl
theorem jg_408 : Cond.instanceMethod yX4_haveRun ∈ jG := jg_in (jch_5 (List.mem_of_getElem? (i := 22) rfl)) rfl
theorem jg_409 : Cond.fieldLink RX8 297 "FoamHead$Sheets" "numbers" "[[I" ∈ jG := jg_in (jch_2 (List.mem_of_getElem? (i := 26) rfl)) rfl
theorem jg_410 : Cond.methodLink RX8 301 arraycopyName ∈ jG := jg_in (jch_5 (List.mem_of_getElem? (i := 25) rfl)) rfl
theorem jg_411 : Cond.fieldLink RX8 307 "FoamHead" "images" "I" ∈ jG := jg_in (jch_2 (List.mem_of_getElem? (i := 42) rfl)) rfl
theorem jg_412 : Cond.fieldLink RX8 310 "FoamHead$World" "waitingSize" "I" ∈ jG := jg_in (jch_1 (List.mem_of_getElem? (i := 123) rfl)) rfl
theorem jg_413 : Cond.fieldLink RX8 313 "FoamHead$World" "waiting" "[I" ∈ jG := jg_in (jch_1 (List.mem_of_getElem? (i := 121) rfl)) rfl
theorem jg_414 : Cond.fieldLink RX8 316 "FoamHead$Foam" "alive" "I" ∈ jG := jg_in (jch_1 (List.mem_of_getElem? (i := 44) rfl)) rfl
theorem jg_415 : Cond.methodLink RX8 319 yX0_walls ∈ jG := jg_in (jch_5 (List.mem_of_getElem? (i := 50) rfl)) rfl
theorem jg_416 : Cond.instanceMethod yX0_walls ∈ jG := jg_in (jch_5 (List.mem_of_getElem? (i := 51) rfl)) rfl
theorem jg_417 : Cond.methodLink RX9 3 objectInit ∈ jG := jg_in (jch_5 (List.mem_of_getElem? (i := 64) rfl)) rfl
theorem jg_418 : Cond.fieldLink RX9 9 "FoamHeadModel" "now" "[I" ∈ jG := jg_in (jch_5 (List.mem_of_getElem? (i := 70) rfl)) rfl
theorem jg_419 : Cond.fieldLink RX9 13 "FoamHeadModel" "kept" "[I" ∈ jG := jg_in (jch_5 (List.mem_of_getElem? (i := 71) rfl)) rfl
theorem jg_420 : Cond.fieldLink RX9 16 "FoamHeadModel" "aside" "[I" ∈ jG := jg_in (jch_5 (List.mem_of_getElem? (i := 72) rfl)) rfl
theorem jg_421 : Cond.fieldLink RX9 19 "FoamHeadModel" "errors" "[I" ∈ jG := jg_in (jch_5 (List.mem_of_getElem? (i := 74) rfl)) rfl
theorem jg_422 : Cond.fieldLink RX9 22 "FoamHeadModel" "sewn" "[I" ∈ jG := jg_in (jch_5 (List.mem_of_getElem? (i := 75) rfl)) rfl
theorem jg_423 : Cond.classLink RX9 25 RJ0 ∈ jG := jg_in (jch_5 (List.mem_of_getElem? (i := 65) rfl)) rfl
theorem jg_424 : Cond.fieldLink RX9 33 "FoamHeadModel" "NAMED" "[Ljava/lang/String;" ∈ jG := jg_in (jch_5 (List.mem_of_getElem? (i := 76) rfl)) rfl
theorem jg_425 : Cond.fieldLink RX9 37 "FoamHeadModel" "code" "[I" ∈ jG := jg_in (jch_5 (List.mem_of_getElem? (i := 81) rfl)) rfl
theorem jg_426 : Cond.fieldLink RX9 40 "FoamHeadModel" "named" "[I" ∈ jG := jg_in (jch_5 (List.mem_of_getElem? (i := 83) rfl)) rfl
theorem jg_427 : Cond.fieldLink RX9 43 "FoamHeadModel" "pile" "[I" ∈ jG := jg_in (jch_5 (List.mem_of_getElem? (i := 84) rfl)) rfl
theorem jg_428 : Cond.fieldLink RX9 46 "FoamHeadModel" "water" "[I" ∈ jG := jg_in (jch_5 (List.mem_of_getElem? (i := 85) rfl)) rfl
theorem jg_429 : Cond.fieldLink RX9 49 "FoamHeadModel" "colours" "[I" ∈ jG := jg_in (jch_5 (List.mem_of_getElem? (i := 86) rfl)) rfl
theorem jg_430 : Cond.fieldLink RX9 52 "FoamHeadModel" "touched" "[I" ∈ jG := jg_in (jch_5 (List.mem_of_getElem? (i := 87) rfl)) rfl
theorem jg_431 : Cond.fieldLink RX9 55 "FoamHeadModel" "trace" "[I" ∈ jG := jg_in (jch_5 (List.mem_of_getElem? (i := 88) rfl)) rfl
theorem jg_432 : Cond.fieldLink RX9 58 "FoamHeadModel" "widths" "[I" ∈ jG := jg_in (jch_5 (List.mem_of_getElem? (i := 92) rfl)) rfl
theorem jg_433 : Cond.fieldLink RX9 61 "FoamHeadModel" "sizes" "[I" ∈ jG := jg_in (jch_5 (List.mem_of_getElem? (i := 93) rfl)) rfl
theorem jg_434 : Cond.fieldLink RX9 64 "FoamHeadModel" "numbers" "[I" ∈ jG := jg_in (jch_5 (List.mem_of_getElem? (i := 94) rfl)) rfl
theorem jg_435 : Cond.fieldLink RX9 67 "FoamHeadModel" "carried" "[I" ∈ jG := jg_in (jch_5 (List.mem_of_getElem? (i := 95) rfl)) rfl
theorem jg_436 : Cond.constant RX9 70 (-1000000 : Int32) ∈ jG := jg_in (jch_5 (List.mem_of_getElem? (i := 162) rfl)) rfl
theorem jg_437 : Cond.methodLink RX9 71 yX9_within ∈ jG := jg_in (jch_5 (List.mem_of_getElem? (i := 153) rfl)) rfl
theorem jg_438 : Cond.static yX9_within ∈ jG := jg_in (jch_5 (List.mem_of_getElem? (i := 154) rfl)) rfl
theorem jg_439 : Cond.methodLink RX9 75 yX9_of ∈ jG := jg_in (jch_5 (List.mem_of_getElem? (i := 178) rfl)) rfl
theorem jg_440 : Cond.instanceMethod yX9_of ∈ jG := jg_in (jch_5 (List.mem_of_getElem? (i := 180) rfl)) rfl
theorem jg_441 : Cond.methodLink RX9 79 yX9_sidesOf ∈ jG := jg_in (jch_5 (List.mem_of_getElem? (i := 174) rfl)) rfl
theorem jg_442 : Cond.instanceMethod yX9_sidesOf ∈ jG := jg_in (jch_5 (List.mem_of_getElem? (i := 176) rfl)) rfl
theorem jg_443 : Cond.methodLink RX9 83 yX9_tells ∈ jG := jg_in (jch_5 (List.mem_of_getElem? (i := 163) rfl)) rfl
theorem jg_444 : Cond.instanceMethod yX9_tells ∈ jG := jg_in (jch_5 (List.mem_of_getElem? (i := 165) rfl)) rfl
theorem jg_445 : Cond.constant RX9 87 (99999 : Int32) ∈ jG := jg_in (jch_5 (List.mem_of_getElem? (i := 156) rfl)) rfl
theorem jg_446 : Cond.constant RX9 88 (-1000001 : Int32) ∈ jG := jg_in (jch_5 (List.mem_of_getElem? (i := 157) rfl)) rfl
theorem jg_447 : Cond.methodLink RX9 89 yX9_finding ∈ jG := jg_in (jch_5 (List.mem_of_getElem? (i := 158) rfl)) rfl
theorem jg_448 : Cond.instanceMethod yX9_finding ∈ jG := jg_in (jch_5 (List.mem_of_getElem? (i := 160) rfl)) rfl
theorem jg_449 : Cond.methodLink RX9 92 yX9_placed ∈ jG := jg_in (jch_5 (List.mem_of_getElem? (i := 167) rfl)) rfl
theorem jg_450 : Cond.static yX9_placed ∈ jG := jg_in (jch_5 (List.mem_of_getElem? (i := 168) rfl)) rfl
theorem jg_451 : Cond.methodLink RX9 96 yX9_grows ∈ jG := jg_in (jch_5 (List.mem_of_getElem? (i := 170) rfl)) rfl
theorem jg_452 : Cond.instanceMethod yX9_grows ∈ jG := jg_in (jch_5 (List.mem_of_getElem? (i := 172) rfl)) rfl
theorem jg_453 : Cond.methodLink RX9 100 yX9_given ∈ jG := jg_in (jch_5 (List.mem_of_getElem? (i := 206) rfl)) rfl
theorem jg_454 : Cond.instanceMethod yX9_given ∈ jG := jg_in (jch_5 (List.mem_of_getElem? (i := 208) rfl)) rfl
theorem jg_455 : Cond.methodLink RX9 104 yX9_is ∈ jG := jg_in (jch_5 (List.mem_of_getElem? (i := 186) rfl)) rfl
theorem jg_456 : Cond.instanceMethod yX9_is ∈ jG := jg_in (jch_5 (List.mem_of_getElem? (i := 188) rfl)) rfl
theorem jg_457 : Cond.methodLink RX9 108 yX9_glassesOf ∈ jG := jg_in (jch_5 (List.mem_of_getElem? (i := 190) rfl)) rfl
theorem jg_458 : Cond.instanceMethod yX9_glassesOf ∈ jG := jg_in (jch_5 (List.mem_of_getElem? (i := 192) rfl)) rfl
theorem jg_459 : Cond.methodLink RX9 111 yX9_dryOf ∈ jG := jg_in (jch_5 (List.mem_of_getElem? (i := 194) rfl)) rfl
theorem jg_460 : Cond.instanceMethod yX9_dryOf ∈ jG := jg_in (jch_5 (List.mem_of_getElem? (i := 196) rfl)) rfl
theorem jg_461 : Cond.methodLink RX9 114 yX9_letsOf ∈ jG := jg_in (jch_5 (List.mem_of_getElem? (i := 198) rfl)) rfl
theorem jg_462 : Cond.instanceMethod yX9_letsOf ∈ jG := jg_in (jch_5 (List.mem_of_getElem? (i := 200) rfl)) rfl
theorem jg_463 : Cond.methodLink RX9 117 yX9_markOf ∈ jG := jg_in (jch_5 (List.mem_of_getElem? (i := 202) rfl)) rfl
theorem jg_464 : Cond.instanceMethod yX9_markOf ∈ jG := jg_in (jch_5 (List.mem_of_getElem? (i := 204) rfl)) rfl
theorem jg_465 : Cond.methodLink RX9 120 yX9_above ∈ jG := jg_in (jch_5 (List.mem_of_getElem? (i := 225) rfl)) rfl
theorem jg_466 : Cond.static yX9_above ∈ jG := jg_in (jch_5 (List.mem_of_getElem? (i := 226) rfl)) rfl
theorem jg_467 : Cond.constant RX9 123 (-1000005 : Int32) ∈ jG := jg_in (jch_5 (List.mem_of_getElem? (i := 228) rfl)) rfl
theorem jg_468 : Cond.methodLink RX9 124 yX9_comes ∈ jG := jg_in (jch_5 (List.mem_of_getElem? (i := 233) rfl)) rfl
theorem jg_469 : Cond.instanceMethod yX9_comes ∈ jG := jg_in (jch_5 (List.mem_of_getElem? (i := 235) rfl)) rfl
theorem jg_470 : Cond.methodLink RX9 127 yX9_leastIn ∈ jG := jg_in (jch_6 (List.mem_of_getElem? (i := 5) rfl)) rfl
theorem jg_471 : Cond.instanceMethod yX9_leastIn ∈ jG := jg_in (jch_6 (List.mem_of_getElem? (i := 7) rfl)) rfl
theorem jg_472 : Cond.methodLink RX9 130 yX9_at ∈ jG := jg_in (jch_6 (List.mem_of_getElem? (i := 9) rfl)) rfl
theorem jg_473 : Cond.instanceMethod yX9_at ∈ jG := jg_in (jch_6 (List.mem_of_getElem? (i := 11) rfl)) rfl
theorem jg_474 : Cond.constant RX9 133 (-1000002 : Int32) ∈ jG := jg_in (jch_6 (List.mem_of_getElem? (i := 13) rfl)) rfl
theorem jg_475 : Cond.methodLink RX9 134 yX9_placeIn ∈ jG := jg_in (jch_6 (List.mem_of_getElem? (i := 26) rfl)) rfl
theorem jg_476 : Cond.instanceMethod yX9_placeIn ∈ jG := jg_in (jch_6 (List.mem_of_getElem? (i := 28) rfl)) rfl
theorem jg_477 : Cond.methodLink RX9 137 yX9_areTwo ∈ jG := jg_in (jch_6 (List.mem_of_getElem? (i := 18) rfl)) rfl
theorem jg_478 : Cond.instanceMethod yX9_areTwo ∈ jG := jg_in (jch_6 (List.mem_of_getElem? (i := 20) rfl)) rfl
theorem jg_479 : Cond.methodLink RX9 141 yX9_isWall ∈ jG := jg_in (jch_6 (List.mem_of_getElem? (i := 22) rfl)) rfl
theorem jg_480 : Cond.instanceMethod yX9_isWall ∈ jG := jg_in (jch_6 (List.mem_of_getElem? (i := 24) rfl)) rfl
theorem jg_481 : Cond.constant RX9 144 (-1000003 : Int32) ∈ jG := jg_in (jch_6 (List.mem_of_getElem? (i := 34) rfl)) rfl
theorem jg_482 : Cond.methodLink RX9 145 yX9_ahead ∈ jG := jg_in (jch_6 (List.mem_of_getElem? (i := 35) rfl)) rfl
theorem jg_483 : Cond.instanceMethod yX9_ahead ∈ jG := jg_in (jch_6 (List.mem_of_getElem? (i := 37) rfl)) rfl
theorem jg_484 : Cond.methodLink RX9 148 yX9_behind ∈ jG := jg_in (jch_6 (List.mem_of_getElem? (i := 39) rfl)) rfl
theorem jg_485 : Cond.instanceMethod yX9_behind ∈ jG := jg_in (jch_6 (List.mem_of_getElem? (i := 41) rfl)) rfl
theorem jg_486 : Cond.methodLink RX9 151 yX9_shuts ∈ jG := jg_in (jch_6 (List.mem_of_getElem? (i := 67) rfl)) rfl
theorem jg_487 : Cond.instanceMethod yX9_shuts ∈ jG := jg_in (jch_6 (List.mem_of_getElem? (i := 69) rfl)) rfl
theorem jg_488 : Cond.methodLink RX9 154 yX9_opens ∈ jG := jg_in (jch_6 (List.mem_of_getElem? (i := 71) rfl)) rfl
theorem jg_489 : Cond.instanceMethod yX9_opens ∈ jG := jg_in (jch_6 (List.mem_of_getElem? (i := 73) rfl)) rfl
theorem jg_490 : Cond.methodLink RX9 157 yJ9_min_7cf53 ∈ jG := jg_in (jch_6 (List.mem_of_getElem? (i := 95) rfl)) rfl
theorem jg_491 : Cond.methodLink RX9 162 yJ9_max_7cf53 ∈ jG := jg_in (jch_6 (List.mem_of_getElem? (i := 96) rfl)) rfl
theorem jg_492 : Cond.methodLink RX9 165 yX9_canTurn ∈ jG := jg_in (jch_6 (List.mem_of_getElem? (i := 47) rfl)) rfl
theorem jg_493 : Cond.instanceMethod yX9_canTurn ∈ jG := jg_in (jch_6 (List.mem_of_getElem? (i := 49) rfl)) rfl
theorem jg_494 : Cond.methodLink RX9 168 yX9_canBurst ∈ jG := jg_in (jch_6 (List.mem_of_getElem? (i := 51) rfl)) rfl
theorem jg_495 : Cond.instanceMethod yX9_canBurst ∈ jG := jg_in (jch_6 (List.mem_of_getElem? (i := 53) rfl)) rfl
theorem jg_496 : Cond.methodLink RX9 171 yX9_canVanish ∈ jG := jg_in (jch_6 (List.mem_of_getElem? (i := 55) rfl)) rfl
theorem jg_497 : Cond.instanceMethod yX9_canVanish ∈ jG := jg_in (jch_6 (List.mem_of_getElem? (i := 57) rfl)) rfl
theorem jg_498 : Cond.methodLink RX9 174 yX9_turns ∈ jG := jg_in (jch_6 (List.mem_of_getElem? (i := 63) rfl)) rfl
theorem jg_499 : Cond.instanceMethod yX9_turns ∈ jG := jg_in (jch_6 (List.mem_of_getElem? (i := 65) rfl)) rfl
theorem jg_500 : Cond.methodLink RX9 177 yX9_vanishes ∈ jG := jg_in (jch_6 (List.mem_of_getElem? (i := 79) rfl)) rfl
theorem jg_501 : Cond.instanceMethod yX9_vanishes ∈ jG := jg_in (jch_6 (List.mem_of_getElem? (i := 81) rfl)) rfl
theorem jg_502 : Cond.methodLink RX9 181 yX9_many ∈ jG := jg_in (jch_6 (List.mem_of_getElem? (i := 83) rfl)) rfl
theorem jg_503 : Cond.instanceMethod yX9_many ∈ jG := jg_in (jch_6 (List.mem_of_getElem? (i := 85) rfl)) rfl
theorem jg_504 : Cond.methodLink RX9 185 yX9_bursts ∈ jG := jg_in (jch_6 (List.mem_of_getElem? (i := 91) rfl)) rfl
theorem jg_505 : Cond.instanceMethod yX9_bursts ∈ jG := jg_in (jch_6 (List.mem_of_getElem? (i := 93) rfl)) rfl
theorem jg_506 : Cond.constant RX9 188 (-1000004 : Int32) ∈ jG := jg_in (jch_6 (List.mem_of_getElem? (i := 101) rfl)) rfl
theorem jg_507 : Cond.constantLong RX9 189 (255 : Int64) ∈ jG := jg_in (jch_6 (List.mem_of_getElem? (i := 102) rfl)) rfl
theorem jg_508 : Cond.fieldLink RX9 191 "FoamHeadModel" "isWrong" "Z" ∈ jG := jg_in (jch_5 (List.mem_of_getElem? (i := 80) rfl)) rfl
theorem jg_509 : Cond.fieldLink RX9 195 "FoamHeadModel" "at" "I" ∈ jG := jg_in (jch_5 (List.mem_of_getElem? (i := 77) rfl)) rfl
theorem jg_510 : Cond.methodLink RX9 198 yX9_here ∈ jG := jg_in (jch_6 (List.mem_of_getElem? (i := 131) rfl)) rfl
theorem jg_511 : Cond.instanceMethod yX9_here ∈ jG := jg_in (jch_6 (List.mem_of_getElem? (i := 133) rfl)) rfl
theorem jg_512 : Cond.fieldLink RX9 201 "FoamHeadModel" "coded" "I" ∈ jG := jg_in (jch_5 (List.mem_of_getElem? (i := 82) rfl)) rfl
theorem jg_513 : Cond.methodLink RX9 204 yX9_both ∈ jG := jg_in (jch_6 (List.mem_of_getElem? (i := 111) rfl)) rfl
theorem jg_514 : Cond.instanceMethod yX9_both ∈ jG := jg_in (jch_6 (List.mem_of_getElem? (i := 113) rfl)) rfl
theorem jg_515 : Cond.methodLink RX9 207 yX9_takes ∈ jG := jg_in (jch_6 (List.mem_of_getElem? (i := 139) rfl)) rfl
theorem jg_516 : Cond.instanceMethod yX9_takes ∈ jG := jg_in (jch_6 (List.mem_of_getElem? (i := 141) rfl)) rfl
theorem jg_517 : Cond.methodLink RX9 210 yX9_codes ∈ jG := jg_in (jch_6 (List.mem_of_getElem? (i := 135) rfl)) rfl
theorem jg_518 : Cond.instanceMethod yX9_codes ∈ jG := jg_in (jch_6 (List.mem_of_getElem? (i := 137) rfl)) rfl
theorem jg_519 : Cond.methodLink RX9 213 yX9_compared ∈ jG := jg_in (jch_6 (List.mem_of_getElem? (i := 115) rfl)) rfl
theorem jg_520 : Cond.instanceMethod yX9_compared ∈ jG := jg_in (jch_6 (List.mem_of_getElem? (i := 117) rfl)) rfl
theorem jg_521 : Cond.methodLink RX9 216 yX9_sum ∈ jG := jg_in (jch_6 (List.mem_of_getElem? (i := 119) rfl)) rfl
theorem jg_522 : Cond.instanceMethod yX9_sum ∈ jG := jg_in (jch_6 (List.mem_of_getElem? (i := 121) rfl)) rfl
theorem jg_523 : Cond.methodLink RX9 219 yX9_product ∈ jG := jg_in (jch_6 (List.mem_of_getElem? (i := 123) rfl)) rfl
theorem jg_524 : Cond.instanceMethod yX9_product ∈ jG := jg_in (jch_6 (List.mem_of_getElem? (i := 125) rfl)) rfl
theorem jg_525 : Cond.methodLink RX9 222 yX9_one ∈ jG := jg_in (jch_6 (List.mem_of_getElem? (i := 127) rfl)) rfl
theorem jg_526 : Cond.instanceMethod yX9_one ∈ jG := jg_in (jch_6 (List.mem_of_getElem? (i := 129) rfl)) rfl
theorem jg_527 : Cond.fieldLink RX9 225 "FoamHeadModel" "use" "I" ∈ jG := jg_in (jch_5 (List.mem_of_getElem? (i := 79) rfl)) rfl
theorem jg_528 : Cond.methodLink RX9 228 yJ0_length_8abf5 ∈ jG := jg_in (jch_6 (List.mem_of_getElem? (i := 147) rfl)) rfl
theorem jg_529 : Cond.instanceMethod yJ0_length_8abf5 ∈ jG := jg_in (jch_3 (List.mem_of_getElem? (i := 141) rfl)) rfl
theorem jg_530 : Cond.methodLink RX9 231 yJ0_charAt_5068e ∈ jG := jg_in (jch_6 (List.mem_of_getElem? (i := 148) rfl)) rfl
theorem jg_531 : Cond.instanceMethod yJ0_charAt_5068e ∈ jG := jg_in (jch_6 (List.mem_of_getElem? (i := 149) rfl)) rfl
theorem jg_532 : Cond.fieldLink RX9 235 "FoamHeadModel" "open" "I" ∈ jG := jg_in (jch_5 (List.mem_of_getElem? (i := 78) rfl)) rfl
theorem jg_533 : Cond.methodLink RX9 238 yX9_either ∈ jG := jg_in (jch_6 (List.mem_of_getElem? (i := 107) rfl)) rfl
theorem jg_534 : Cond.instanceMethod yX9_either ∈ jG := jg_in (jch_6 (List.mem_of_getElem? (i := 109) rfl)) rfl
theorem jg_535 : Cond.methodLink RX9 241 yX9_nameOf ∈ jG := jg_in (jch_6 (List.mem_of_getElem? (i := 143) rfl)) rfl
theorem jg_536 : Cond.instanceMethod yX9_nameOf ∈ jG := jg_in (jch_6 (List.mem_of_getElem? (i := 145) rfl)) rfl
theorem jg_537 : Cond.methodLink RX9 244 yX9_done ∈ jG := jg_in (jch_5 (List.mem_of_getElem? (i := 218) rfl)) rfl
theorem jg_538 : Cond.static yX9_done ∈ jG := jg_in (jch_5 (List.mem_of_getElem? (i := 219) rfl)) rfl
theorem jg_539 : Cond.methodLink RX9 248 yX9_hasText ∈ jG := jg_in (jch_5 (List.mem_of_getElem? (i := 210) rfl)) rfl
theorem jg_540 : Cond.instanceMethod yX9_hasText ∈ jG := jg_in (jch_5 (List.mem_of_getElem? (i := 212) rfl)) rfl
theorem jg_541 : Cond.methodLink RX9 251 yX9_worked ∈ jG := jg_in (jch_5 (List.mem_of_getElem? (i := 214) rfl)) rfl
theorem jg_542 : Cond.instanceMethod yX9_worked ∈ jG := jg_in (jch_5 (List.mem_of_getElem? (i := 216) rfl)) rfl
theorem jg_543 : Cond.constantLong RX9 254 (-9999 : Int64) ∈ jG := jg_in (jch_6 (List.mem_of_getElem? (i := 184) rfl)) rfl
theorem jg_544 : Cond.constantLong RX9 256 (9999 : Int64) ∈ jG := jg_in (jch_6 (List.mem_of_getElem? (i := 185) rfl)) rfl
theorem jg_545 : Cond.methodLink RX9 258 yJ9_min_f86c9 ∈ jG := jg_in (jch_6 (List.mem_of_getElem? (i := 186) rfl)) rfl
theorem jg_546 : Cond.methodLink RX9 261 yJ9_max_f86c9 ∈ jG := jg_in (jch_6 (List.mem_of_getElem? (i := 187) rfl)) rfl
theorem jg_547 : Cond.constantLong RX9 263 (144 : Int64) ∈ jG := jg_in (jch_6 (List.mem_of_getElem? (i := 188) rfl)) rfl
theorem jg_548 : Cond.methodLink RX9 265 yX9_passesBy ∈ jG := jg_in (jch_6 (List.mem_of_getElem? (i := 180) rfl)) rfl
theorem jg_549 : Cond.instanceMethod yX9_passesBy ∈ jG := jg_in (jch_6 (List.mem_of_getElem? (i := 182) rfl)) rfl
theorem jg_550 : Cond.methodLink RX9 268 yJ9_abs_0f7a4 ∈ jG := jg_in (jch_6 (List.mem_of_getElem? (i := 201) rfl)) rfl
theorem jg_551 : Cond.methodLink RX9 271 yX9_gives ∈ jG := jg_in (jch_6 (List.mem_of_getElem? (i := 202) rfl)) rfl
theorem jg_552 : Cond.instanceMethod yX9_gives ∈ jG := jg_in (jch_6 (List.mem_of_getElem? (i := 204) rfl)) rfl
theorem jg_553 : Cond.constantLong RX9 274 (1999999999 : Int64) ∈ jG := jg_in (jch_6 (List.mem_of_getElem? (i := 218) rfl)) rfl
theorem jg_554 : Cond.methodLink RX9 276 yX9_isLower ∈ jG := jg_in (jch_6 (List.mem_of_getElem? (i := 210) rfl)) rfl
theorem jg_555 : Cond.instanceMethod yX9_isLower ∈ jG := jg_in (jch_6 (List.mem_of_getElem? (i := 212) rfl)) rfl
theorem jg_556 : Cond.methodLink RX9 279 yX9_drains ∈ jG := jg_in (jch_6 (List.mem_of_getElem? (i := 214) rfl)) rfl
theorem jg_557 : Cond.instanceMethod yX9_drains ∈ jG := jg_in (jch_6 (List.mem_of_getElem? (i := 216) rfl)) rfl
theorem jg_558 : Cond.constant RX9 282 (1103515245 : Int32) ∈ jG := jg_in (jch_6 (List.mem_of_getElem? (i := 231) rfl)) rfl
theorem jg_559 : Cond.methodLink RX9 283 yX9_isDry ∈ jG := jg_in (jch_6 (List.mem_of_getElem? (i := 223) rfl)) rfl
theorem jg_560 : Cond.instanceMethod yX9_isDry ∈ jG := jg_in (jch_6 (List.mem_of_getElem? (i := 225) rfl)) rfl
theorem jg_561 : Cond.methodLink RX9 286 yX9_drawn ∈ jG := jg_in (jch_6 (List.mem_of_getElem? (i := 227) rfl)) rfl
theorem jg_562 : Cond.instanceMethod yX9_drawn ∈ jG := jg_in (jch_6 (List.mem_of_getElem? (i := 229) rfl)) rfl
theorem jg_563 : Cond.methodLink RX9 289 yX9_passesAll ∈ jG := jg_in (jch_6 (List.mem_of_getElem? (i := 197) rfl)) rfl
theorem jg_564 : Cond.instanceMethod yX9_passesAll ∈ jG := jg_in (jch_6 (List.mem_of_getElem? (i := 199) rfl)) rfl
theorem jg_565 : Cond.methodLink RX9 292 yX9_runs ∈ jG := jg_in (jch_6 (List.mem_of_getElem? (i := 206) rfl)) rfl
theorem jg_566 : Cond.instanceMethod yX9_runs ∈ jG := jg_in (jch_6 (List.mem_of_getElem? (i := 208) rfl)) rfl
theorem jg_567 : Cond.methodLink RX9 295 yX9_burstsAll ∈ jG := jg_in (jch_6 (List.mem_of_getElem? (i := 219) rfl)) rfl
theorem jg_568 : Cond.instanceMethod yX9_burstsAll ∈ jG := jg_in (jch_6 (List.mem_of_getElem? (i := 221) rfl)) rfl
theorem jg_569 : Cond.methodLink RX9 298 yX9_turnsFirst ∈ jG := jg_in (jch_6 (List.mem_of_getElem? (i := 232) rfl)) rfl
theorem jg_570 : Cond.instanceMethod yX9_turnsFirst ∈ jG := jg_in (jch_6 (List.mem_of_getElem? (i := 234) rfl)) rfl
theorem jg_571 : Cond.methodLink RX9 301 yX9_ticks ∈ jG := jg_in (jch_6 (List.mem_of_getElem? (i := 193) rfl)) rfl
theorem jg_572 : Cond.instanceMethod yX9_ticks ∈ jG := jg_in (jch_6 (List.mem_of_getElem? (i := 195) rfl)) rfl
theorem jg_573 : Cond.methodLink RX9 304 yX9_copy ∈ jG := jg_in (jch_7 (List.mem_of_getElem? (i := 0) rfl)) rfl
theorem jg_574 : Cond.static yX9_copy ∈ jG := jg_in (jch_7 (List.mem_of_getElem? (i := 1) rfl)) rfl
theorem jg_575 : Cond.methodLink RX9 308 yX9_has ∈ jG := jg_in (jch_7 (List.mem_of_getElem? (i := 31) rfl)) rfl
theorem jg_576 : Cond.static yX9_has ∈ jG := jg_in (jch_7 (List.mem_of_getElem? (i := 32) rfl)) rfl
theorem jg_577 : Cond.methodLink RX9 311 yX9_besides ∈ jG := jg_in (jch_7 (List.mem_of_getElem? (i := 34) rfl)) rfl
theorem jg_578 : Cond.instanceMethod yX9_besides ∈ jG := jg_in (jch_7 (List.mem_of_getElem? (i := 36) rfl)) rfl
theorem jg_579 : Cond.methodLink RX9 314 yX9_coloured ∈ jG := jg_in (jch_7 (List.mem_of_getElem? (i := 42) rfl)) rfl
theorem jg_580 : Cond.instanceMethod yX9_coloured ∈ jG := jg_in (jch_7 (List.mem_of_getElem? (i := 44) rfl)) rfl
theorem jg_581 : Cond.methodLink RX9 317 yX9_mayBe ∈ jG := jg_in (jch_7 (List.mem_of_getElem? (i := 46) rfl)) rfl
theorem jg_582 : Cond.instanceMethod yX9_mayBe ∈ jG := jg_in (jch_7 (List.mem_of_getElem? (i := 48) rfl)) rfl
theorem jg_583 : Cond.methodLink RX9 320 yX9_there ∈ jG := jg_in (jch_7 (List.mem_of_getElem? (i := 54) rfl)) rfl
theorem jg_584 : Cond.instanceMethod yX9_there ∈ jG := jg_in (jch_7 (List.mem_of_getElem? (i := 56) rfl)) rfl
theorem jg_585 : Cond.methodLink RX9 323 yX9_bits ∈ jG := jg_in (jch_7 (List.mem_of_getElem? (i := 58) rfl)) rfl
theorem jg_586 : Cond.static yX9_bits ∈ jG := jg_in (jch_7 (List.mem_of_getElem? (i := 59) rfl)) rfl
theorem jg_587 : Cond.fieldLink RX9 326 "FoamHeadModel" "traced" "I" ∈ jG := jg_in (jch_5 (List.mem_of_getElem? (i := 89) rfl)) rfl
theorem jg_588 : Cond.fieldLink RX9 329 "FoamHeadModel" "speaker" "I" ∈ jG := jg_in (jch_5 (List.mem_of_getElem? (i := 90) rfl)) rfl
theorem jg_589 : Cond.methodLink RX9 332 yX9_bodyFrom ∈ jG := jg_in (jch_7 (List.mem_of_getElem? (i := 73) rfl)) rfl
theorem jg_590 : Cond.instanceMethod yX9_bodyFrom ∈ jG := jg_in (jch_7 (List.mem_of_getElem? (i := 75) rfl)) rfl
theorem jg_591 : Cond.methodLink RX9 335 yX9_hasOwn ∈ jG := jg_in (jch_7 (List.mem_of_getElem? (i := 77) rfl)) rfl
theorem jg_592 : Cond.static yX9_hasOwn ∈ jG := jg_in (jch_7 (List.mem_of_getElem? (i := 78) rfl)) rfl
theorem jg_593 : Cond.fieldLink RX9 338 "FoamHeadModel" "isParted" "Z" ∈ jG := jg_in (jch_5 (List.mem_of_getElem? (i := 91) rfl)) rfl
theorem jg_594 : Cond.methodLink RX9 341 yX9_body ∈ jG := jg_in (jch_7 (List.mem_of_getElem? (i := 80) rfl)) rfl
theorem jg_595 : Cond.instanceMethod yX9_body ∈ jG := jg_in (jch_7 (List.mem_of_getElem? (i := 82) rfl)) rfl
theorem jg_596 : Cond.methodLink RX9 344 yX9_began ∈ jG := jg_in (jch_7 (List.mem_of_getElem? (i := 84) rfl)) rfl
theorem jg_597 : Cond.instanceMethod yX9_began ∈ jG := jg_in (jch_7 (List.mem_of_getElem? (i := 86) rfl)) rfl
theorem jg_598 : Cond.methodLink RX9 347 yX9_voiced ∈ jG := jg_in (jch_7 (List.mem_of_getElem? (i := 69) rfl)) rfl
theorem jg_599 : Cond.instanceMethod yX9_voiced ∈ jG := jg_in (jch_7 (List.mem_of_getElem? (i := 71) rfl)) rfl
theorem jg_600 : Cond.constant RX9 350 (-1000006 : Int32) ∈ jG := jg_in (jch_7 (List.mem_of_getElem? (i := 88) rfl)) rfl
theorem jg_601 : Cond.methodLink RX9 351 yX9_isSheet ∈ jG := jg_in (jch_7 (List.mem_of_getElem? (i := 97) rfl)) rfl
theorem jg_602 : Cond.static yX9_isSheet ∈ jG := jg_in (jch_7 (List.mem_of_getElem? (i := 98) rfl)) rfl
theorem jg_603 : Cond.fieldLink RX9 354 "FoamHeadModel" "images" "I" ∈ jG := jg_in (jch_5 (List.mem_of_getElem? (i := 73) rfl)) rfl
theorem jg_604 : Cond.constant RJ6 265 (1431655765 : Int32) ∈ jG := jg_in (jch_2 (List.mem_of_getElem? (i := 103) rfl)) rfl
theorem jg_605 : Cond.constant RJ6 266 (858993459 : Int32) ∈ jG := jg_in (jch_2 (List.mem_of_getElem? (i := 104) rfl)) rfl
theorem jg_606 : Cond.constant RJ6 267 (252645135 : Int32) ∈ jG := jg_in (jch_2 (List.mem_of_getElem? (i := 105) rfl)) rfl
theorem jg_607 : Cond.methodLink RJ0 1059 yJ3_checkIndex_8e157 ∈ jG := jg_in (jch_6 (List.mem_of_getElem? (i := 158) rfl)) rfl
theorem jg_608 : Cond.static yJ3_checkIndex_8e157 ∈ jG := jg_in (jch_6 (List.mem_of_getElem? (i := 159) rfl)) rfl
theorem jg_609 : Cond.fieldLink RJ0 9 "java/lang/String" "value" "[B" ∈ jG := jg_in (jch_7 (List.mem_of_getElem? (i := 138) rfl)) rfl
theorem jg_610 : Cond.methodLink RJ0 335 yJ0_coder_7d493 ∈ jG := jg_in (jch_3 (List.mem_of_getElem? (i := 144) rfl)) rfl
theorem jg_611 : Cond.instanceMethod yJ0_coder_7d493 ∈ jG := jg_in (jch_3 (List.mem_of_getElem? (i := 145) rfl)) rfl
theorem jg_612 : Cond.methodLink RJ0 492 yJ0_isLatin1_aae02 ∈ jG := jg_in (jch_3 (List.mem_of_getElem? (i := 134) rfl)) rfl
theorem jg_613 : Cond.instanceMethod yJ0_isLatin1_aae02 ∈ jG := jg_in (jch_3 (List.mem_of_getElem? (i := 135) rfl)) rfl
theorem jg_614 : Cond.methodLink RJ0 495 yJ1_charAt_3b067 ∈ jG := jg_in (jch_6 (List.mem_of_getElem? (i := 152) rfl)) rfl
theorem jg_615 : Cond.static yJ1_charAt_3b067 ∈ jG := jg_in (jch_6 (List.mem_of_getElem? (i := 153) rfl)) rfl
theorem jg_616 : Cond.methodLink RJ0 633 yJ0_indexOf_7cf53 ∈ jG := jg_in (jch_3 (List.mem_of_getElem? (i := 130) rfl)) rfl
theorem jg_617 : Cond.instanceMethod yJ0_indexOf_7cf53 ∈ jG := jg_in (jch_3 (List.mem_of_getElem? (i := 131) rfl)) rfl
theorem jg_618 : Cond.methodLink RJ0 505 yJ0_length_8abf5 ∈ jG := jg_in (jch_3 (List.mem_of_getElem? (i := 140) rfl)) rfl
theorem jg_619 : Cond.methodLink RJ0 637 yJ1_indexOf_4cfef ∈ jG := jg_in (jch_3 (List.mem_of_getElem? (i := 148) rfl)) rfl
theorem jg_620 : Cond.static yJ1_indexOf_4cfef ∈ jG := jg_in (jch_3 (List.mem_of_getElem? (i := 149) rfl)) rfl
theorem jg_621 : Cond.fieldLink RJ0 38 "java/lang/String" "COMPACT_STRINGS" "Z" ∈ jG := jg_in (jch_3 (List.mem_of_getElem? (i := 138) rfl)) rfl
theorem jg_622 : Cond.fieldLink RJ0 15 "java/lang/String" "coder" "B" ∈ jG := jg_in (jch_7 (List.mem_of_getElem? (i := 137) rfl)) rfl
theorem jg_623 : Cond.methodLink RJ1 9 yJ0_checkIndex_df160 ∈ jG := jg_in (jch_6 (List.mem_of_getElem? (i := 155) rfl)) rfl
theorem jg_624 : Cond.static yJ0_checkIndex_df160 ∈ jG := jg_in (jch_6 (List.mem_of_getElem? (i := 156) rfl)) rfl
theorem jg_625 : Cond.methodLink RJ1 88 yJ1_canEncode_9a6ad ∈ jG := jg_in (jch_3 (List.mem_of_getElem? (i := 151) rfl)) rfl
theorem jg_626 : Cond.static yJ1_canEncode_9a6ad ∈ jG := jg_in (jch_3 (List.mem_of_getElem? (i := 152) rfl)) rfl
theorem jg_627 : Cond.methodLink RJ1 92 yJ9_max_7cf53 ∈ jG := jg_in (jch_3 (List.mem_of_getElem? (i := 154) rfl)) rfl
theorem jg_628 : Cond.methodLink RJ1 38 yJ9_min_7cf53 ∈ jG := jg_in (jch_3 (List.mem_of_getElem? (i := 155) rfl)) rfl
theorem jg_629 : Cond.methodLink RJ1 95 yJ1_indexOfChar_4cfef ∈ jG := jg_in (jch_3 (List.mem_of_getElem? (i := 156) rfl)) rfl
theorem jg_630 : Cond.static yJ1_indexOfChar_4cfef ∈ jG := jg_in (jch_3 (List.mem_of_getElem? (i := 157) rfl)) rfl
theorem jg_631 : Cond.classLink RL 7 RX8 ∈ jG := jg_in (jch_1 (List.mem_of_getElem? (i := 20) rfl)) rfl
theorem jg_632 : Cond.instantiable RX8 9 ∈ jG := jg_in (jch_1 (List.mem_of_getElem? (i := 21) rfl)) rfl
theorem jg_633 : Cond.initialized RX8 ∈ jG := jg_in (jch_1 (List.mem_of_getElem? (i := 1) rfl)) rfl
theorem jg_634 : Cond.methodLink RL 9 yX8_init ∈ jG := jg_in (jch_1 (List.mem_of_getElem? (i := 22) rfl)) rfl
theorem jg_635 : Cond.instanceMethod yX8_init ∈ jG := jg_in (jch_1 (List.mem_of_getElem? (i := 23) rfl)) rfl
theorem jg_636 : Cond.classLink RL 10 RX9 ∈ jG := jg_in (jch_5 (List.mem_of_getElem? (i := 59) rfl)) rfl
theorem jg_637 : Cond.instantiable RX9 26 ∈ jG := jg_in (jch_5 (List.mem_of_getElem? (i := 60) rfl)) rfl
theorem jg_638 : Cond.initialized RX9 ∈ jG := jg_in (jch_1 (List.mem_of_getElem? (i := 9) rfl)) rfl
theorem jg_639 : Cond.methodLink RL 12 yX9_init ∈ jG := jg_in (jch_5 (List.mem_of_getElem? (i := 61) rfl)) rfl
theorem jg_640 : Cond.instanceMethod yX9_init ∈ jG := jg_in (jch_5 (List.mem_of_getElem? (i := 62) rfl)) rfl
theorem jg_641 : Cond.methodLink RL 13 yX8_foam ∈ jG := jg_in (jch_2 (List.mem_of_getElem? (i := 62) rfl)) rfl
theorem jg_642 : Cond.instanceMethod yX8_foam ∈ jG := jg_in (jch_2 (List.mem_of_getElem? (i := 63) rfl)) rfl
theorem jg_643 : Cond.methodLink RL 17 yX9_foam ∈ jG := jg_in (jch_5 (List.mem_of_getElem? (i := 149) rfl)) rfl
theorem jg_644 : Cond.instanceMethod yX9_foam ∈ jG := jg_in (jch_5 (List.mem_of_getElem? (i := 150) rfl)) rfl
theorem jg_645 : Cond.methodLink RL 18 yX8_bubbleIs ∈ jG := jg_in (jch_2 (List.mem_of_getElem? (i := 106) rfl)) rfl
theorem jg_646 : Cond.instanceMethod yX8_bubbleIs ∈ jG := jg_in (jch_2 (List.mem_of_getElem? (i := 107) rfl)) rfl
theorem jg_647 : Cond.methodLink RL 22 yX9_bubbleIs ∈ jG := jg_in (jch_5 (List.mem_of_getElem? (i := 182) rfl)) rfl
theorem jg_648 : Cond.instanceMethod yX9_bubbleIs ∈ jG := jg_in (jch_5 (List.mem_of_getElem? (i := 183) rfl)) rfl
theorem jg_649 : Cond.methodLink RL 23 yX8_as ∈ jG := jg_in (jch_2 (List.mem_of_getElem? (i := 165) rfl)) rfl
theorem jg_650 : Cond.instanceMethod yX8_as ∈ jG := jg_in (jch_2 (List.mem_of_getElem? (i := 166) rfl)) rfl
theorem jg_651 : Cond.methodLink RL 26 yX9_as ∈ jG := jg_in (jch_5 (List.mem_of_getElem? (i := 221) rfl)) rfl
theorem jg_652 : Cond.instanceMethod yX9_as ∈ jG := jg_in (jch_5 (List.mem_of_getElem? (i := 222) rfl)) rfl
theorem jg_653 : Cond.methodLink RL 27 yX8_become ∈ jG := jg_in (jch_2 (List.mem_of_getElem? (i := 181) rfl)) rfl
theorem jg_654 : Cond.instanceMethod yX8_become ∈ jG := jg_in (jch_2 (List.mem_of_getElem? (i := 182) rfl)) rfl
theorem jg_655 : Cond.methodLink RL 30 yX9_become ∈ jG := jg_in (jch_5 (List.mem_of_getElem? (i := 229) rfl)) rfl
theorem jg_656 : Cond.instanceMethod yX9_become ∈ jG := jg_in (jch_5 (List.mem_of_getElem? (i := 230) rfl)) rfl
theorem jg_657 : Cond.methodLink RL 31 yX8_fill ∈ jG := jg_in (jch_2 (List.mem_of_getElem? (i := 185) rfl)) rfl
theorem jg_658 : Cond.instanceMethod yX8_fill ∈ jG := jg_in (jch_2 (List.mem_of_getElem? (i := 186) rfl)) rfl
theorem jg_659 : Cond.methodLink RL 34 yX9_fill ∈ jG := jg_in (jch_5 (List.mem_of_getElem? (i := 237) rfl)) rfl
theorem jg_660 : Cond.instanceMethod yX9_fill ∈ jG := jg_in (jch_5 (List.mem_of_getElem? (i := 238) rfl)) rfl
theorem jg_661 : Cond.methodLink RL 35 yX8_ring ∈ jG := jg_in (jch_2 (List.mem_of_getElem? (i := 189) rfl)) rfl
theorem jg_662 : Cond.instanceMethod yX8_ring ∈ jG := jg_in (jch_2 (List.mem_of_getElem? (i := 190) rfl)) rfl
theorem jg_663 : Cond.methodLink RL 38 yX9_ring ∈ jG := jg_in (jch_6 (List.mem_of_getElem? (i := 1) rfl)) rfl
theorem jg_664 : Cond.instanceMethod yX9_ring ∈ jG := jg_in (jch_6 (List.mem_of_getElem? (i := 2) rfl)) rfl
theorem jg_665 : Cond.methodLink RL 39 yX8_beside ∈ jG := jg_in (jch_2 (List.mem_of_getElem? (i := 197) rfl)) rfl
theorem jg_666 : Cond.instanceMethod yX8_beside ∈ jG := jg_in (jch_2 (List.mem_of_getElem? (i := 198) rfl)) rfl
theorem jg_667 : Cond.methodLink RL 42 yX9_beside ∈ jG := jg_in (jch_6 (List.mem_of_getElem? (i := 14) rfl)) rfl
theorem jg_668 : Cond.instanceMethod yX9_beside ∈ jG := jg_in (jch_6 (List.mem_of_getElem? (i := 15) rfl)) rfl
theorem jg_669 : Cond.methodLink RL 43 yX8_end ∈ jG := jg_in (jch_2 (List.mem_of_getElem? (i := 214) rfl)) rfl
theorem jg_670 : Cond.instanceMethod yX8_end ∈ jG := jg_in (jch_2 (List.mem_of_getElem? (i := 215) rfl)) rfl
theorem jg_671 : Cond.methodLink RL 46 yX9_end ∈ jG := jg_in (jch_6 (List.mem_of_getElem? (i := 30) rfl)) rfl
theorem jg_672 : Cond.instanceMethod yX9_end ∈ jG := jg_in (jch_6 (List.mem_of_getElem? (i := 31) rfl)) rfl
theorem jg_673 : Cond.methodLink RL 47 yX8_can ∈ jG := jg_in (jch_2 (List.mem_of_getElem? (i := 226) rfl)) rfl
theorem jg_674 : Cond.instanceMethod yX8_can ∈ jG := jg_in (jch_2 (List.mem_of_getElem? (i := 227) rfl)) rfl
theorem jg_675 : Cond.methodLink RL 50 yX9_can ∈ jG := jg_in (jch_6 (List.mem_of_getElem? (i := 43) rfl)) rfl
theorem jg_676 : Cond.instanceMethod yX9_can ∈ jG := jg_in (jch_6 (List.mem_of_getElem? (i := 44) rfl)) rfl
theorem jg_677 : Cond.methodLink RL 51 yX8_turn ∈ jG := jg_in (jch_3 (List.mem_of_getElem? (i := 13) rfl)) rfl
theorem jg_678 : Cond.instanceMethod yX8_turn ∈ jG := jg_in (jch_3 (List.mem_of_getElem? (i := 14) rfl)) rfl
theorem jg_679 : Cond.methodLink RL 54 yX9_turn ∈ jG := jg_in (jch_6 (List.mem_of_getElem? (i := 59) rfl)) rfl
theorem jg_680 : Cond.instanceMethod yX9_turn ∈ jG := jg_in (jch_6 (List.mem_of_getElem? (i := 60) rfl)) rfl
theorem jg_681 : Cond.methodLink RL 55 yX8_vanish ∈ jG := jg_in (jch_3 (List.mem_of_getElem? (i := 29) rfl)) rfl
theorem jg_682 : Cond.instanceMethod yX8_vanish ∈ jG := jg_in (jch_3 (List.mem_of_getElem? (i := 30) rfl)) rfl
theorem jg_683 : Cond.methodLink RL 59 yX9_vanish ∈ jG := jg_in (jch_6 (List.mem_of_getElem? (i := 75) rfl)) rfl
theorem jg_684 : Cond.instanceMethod yX9_vanish ∈ jG := jg_in (jch_6 (List.mem_of_getElem? (i := 76) rfl)) rfl
theorem jg_685 : Cond.methodLink RL 60 yX8_burst ∈ jG := jg_in (jch_3 (List.mem_of_getElem? (i := 41) rfl)) rfl
theorem jg_686 : Cond.instanceMethod yX8_burst ∈ jG := jg_in (jch_3 (List.mem_of_getElem? (i := 42) rfl)) rfl
theorem jg_687 : Cond.methodLink RL 63 yX9_burst ∈ jG := jg_in (jch_6 (List.mem_of_getElem? (i := 87) rfl)) rfl
theorem jg_688 : Cond.instanceMethod yX9_burst ∈ jG := jg_in (jch_6 (List.mem_of_getElem? (i := 88) rfl)) rfl
theorem jg_689 : Cond.constantLong RL 64 (4294967295 : Int64) ∈ jG := jg_in (jch_7 (List.mem_of_getElem? (i := 136) rfl)) rfl
theorem jg_690 : Cond.methodLink RL 66 yX8_feed ∈ jG := jg_in (jch_3 (List.mem_of_getElem? (i := 68) rfl)) rfl
theorem jg_691 : Cond.instanceMethod yX8_feed ∈ jG := jg_in (jch_3 (List.mem_of_getElem? (i := 69) rfl)) rfl
theorem jg_692 : Cond.methodLink RL 70 yX9_feed ∈ jG := jg_in (jch_6 (List.mem_of_getElem? (i := 97) rfl)) rfl
theorem jg_693 : Cond.instanceMethod yX9_feed ∈ jG := jg_in (jch_6 (List.mem_of_getElem? (i := 98) rfl)) rfl
theorem jg_694 : Cond.methodLink RL 71 yX8_text ∈ jG := jg_in (jch_3 (List.mem_of_getElem? (i := 77) rfl)) rfl
theorem jg_695 : Cond.instanceMethod yX8_text ∈ jG := jg_in (jch_3 (List.mem_of_getElem? (i := 78) rfl)) rfl
theorem jg_696 : Cond.methodLink RL 74 yX9_text ∈ jG := jg_in (jch_6 (List.mem_of_getElem? (i := 103) rfl)) rfl
theorem jg_697 : Cond.instanceMethod yX9_text ∈ jG := jg_in (jch_6 (List.mem_of_getElem? (i := 104) rfl)) rfl
theorem jg_698 : Cond.methodLink RL 75 yX8_untell ∈ jG := jg_in (jch_3 (List.mem_of_getElem? (i := 232) rfl)) rfl
theorem jg_699 : Cond.instanceMethod yX8_untell ∈ jG := jg_in (jch_3 (List.mem_of_getElem? (i := 233) rfl)) rfl
theorem jg_700 : Cond.methodLink RL 78 yX9_untell ∈ jG := jg_in (jch_6 (List.mem_of_getElem? (i := 168) rfl)) rfl
theorem jg_701 : Cond.instanceMethod yX9_untell ∈ jG := jg_in (jch_6 (List.mem_of_getElem? (i := 169) rfl)) rfl
theorem jg_702 : Cond.methodLink RL 79 yX8_rule ∈ jG := jg_in (jch_3 (List.mem_of_getElem? (i := 237) rfl)) rfl
theorem jg_703 : Cond.instanceMethod yX8_rule ∈ jG := jg_in (jch_3 (List.mem_of_getElem? (i := 238) rfl)) rfl
theorem jg_704 : Cond.methodLink RL 82 yX9_rule ∈ jG := jg_in (jch_6 (List.mem_of_getElem? (i := 172) rfl)) rfl
theorem jg_705 : Cond.instanceMethod yX9_rule ∈ jG := jg_in (jch_6 (List.mem_of_getElem? (i := 173) rfl)) rfl
theorem jg_706 : Cond.methodLink RL 83 yX8_passes ∈ jG := jg_in (jch_4 (List.mem_of_getElem? (i := 1) rfl)) rfl
theorem jg_707 : Cond.instanceMethod yX8_passes ∈ jG := jg_in (jch_4 (List.mem_of_getElem? (i := 2) rfl)) rfl
theorem jg_708 : Cond.methodLink RL 86 yX9_passes ∈ jG := jg_in (jch_6 (List.mem_of_getElem? (i := 176) rfl)) rfl
theorem jg_709 : Cond.instanceMethod yX9_passes ∈ jG := jg_in (jch_6 (List.mem_of_getElem? (i := 177) rfl)) rfl
theorem jg_710 : Cond.methodLink RL 87 yX8_tick ∈ jG := jg_in (jch_4 (List.mem_of_getElem? (i := 23) rfl)) rfl
theorem jg_711 : Cond.instanceMethod yX8_tick ∈ jG := jg_in (jch_4 (List.mem_of_getElem? (i := 24) rfl)) rfl
theorem jg_712 : Cond.methodLink RL 90 yX9_tick ∈ jG := jg_in (jch_6 (List.mem_of_getElem? (i := 189) rfl)) rfl
theorem jg_713 : Cond.instanceMethod yX9_tick ∈ jG := jg_in (jch_6 (List.mem_of_getElem? (i := 190) rfl)) rfl
theorem jg_714 : Cond.methodLink RL 91 yX8_stands ∈ jG := jg_in (jch_4 (List.mem_of_getElem? (i := 102) rfl)) rfl
theorem jg_715 : Cond.instanceMethod yX8_stands ∈ jG := jg_in (jch_4 (List.mem_of_getElem? (i := 103) rfl)) rfl
theorem jg_716 : Cond.methodLink RL 94 yX9_stands ∈ jG := jg_in (jch_6 (List.mem_of_getElem? (i := 236) rfl)) rfl
theorem jg_717 : Cond.instanceMethod yX9_stands ∈ jG := jg_in (jch_6 (List.mem_of_getElem? (i := 237) rfl)) rfl
theorem jg_718 : Cond.methodLink RL 95 yX8_seed ∈ jG := jg_in (jch_4 (List.mem_of_getElem? (i := 120) rfl)) rfl
theorem jg_719 : Cond.instanceMethod yX8_seed ∈ jG := jg_in (jch_4 (List.mem_of_getElem? (i := 121) rfl)) rfl
theorem jg_720 : Cond.methodLink RL 98 yX9_seed ∈ jG := jg_in (jch_7 (List.mem_of_getElem? (i := 3) rfl)) rfl
theorem jg_721 : Cond.instanceMethod yX9_seed ∈ jG := jg_in (jch_7 (List.mem_of_getElem? (i := 4) rfl)) rfl
theorem jg_722 : Cond.methodLink RL 99 yX8_all ∈ jG := jg_in (jch_4 (List.mem_of_getElem? (i := 124) rfl)) rfl
theorem jg_723 : Cond.instanceMethod yX8_all ∈ jG := jg_in (jch_4 (List.mem_of_getElem? (i := 125) rfl)) rfl
theorem jg_724 : Cond.methodLink RL 102 yX9_all ∈ jG := jg_in (jch_7 (List.mem_of_getElem? (i := 7) rfl)) rfl
theorem jg_725 : Cond.instanceMethod yX9_all ∈ jG := jg_in (jch_7 (List.mem_of_getElem? (i := 8) rfl)) rfl
theorem jg_726 : Cond.methodLink RL 103 yX8_pace ∈ jG := jg_in (jch_4 (List.mem_of_getElem? (i := 132) rfl)) rfl
theorem jg_727 : Cond.instanceMethod yX8_pace ∈ jG := jg_in (jch_4 (List.mem_of_getElem? (i := 133) rfl)) rfl
theorem jg_728 : Cond.methodLink RL 106 yX9_pace ∈ jG := jg_in (jch_7 (List.mem_of_getElem? (i := 11) rfl)) rfl
theorem jg_729 : Cond.instanceMethod yX9_pace ∈ jG := jg_in (jch_7 (List.mem_of_getElem? (i := 12) rfl)) rfl
theorem jg_730 : Cond.methodLink RL 107 yX8_sides ∈ jG := jg_in (jch_4 (List.mem_of_getElem? (i := 136) rfl)) rfl
theorem jg_731 : Cond.instanceMethod yX8_sides ∈ jG := jg_in (jch_4 (List.mem_of_getElem? (i := 137) rfl)) rfl
theorem jg_732 : Cond.methodLink RL 110 yX9_sides ∈ jG := jg_in (jch_7 (List.mem_of_getElem? (i := 15) rfl)) rfl
theorem jg_733 : Cond.instanceMethod yX9_sides ∈ jG := jg_in (jch_7 (List.mem_of_getElem? (i := 16) rfl)) rfl
theorem jg_734 : Cond.methodLink RL 111 yX8_around ∈ jG := jg_in (jch_4 (List.mem_of_getElem? (i := 140) rfl)) rfl
theorem jg_735 : Cond.instanceMethod yX8_around ∈ jG := jg_in (jch_4 (List.mem_of_getElem? (i := 141) rfl)) rfl
theorem jg_736 : Cond.methodLink RL 114 yX9_around ∈ jG := jg_in (jch_7 (List.mem_of_getElem? (i := 19) rfl)) rfl
theorem jg_737 : Cond.instanceMethod yX9_around ∈ jG := jg_in (jch_7 (List.mem_of_getElem? (i := 20) rfl)) rfl
theorem jg_738 : Cond.methodLink RL 115 yX8_first ∈ jG := jg_in (jch_4 (List.mem_of_getElem? (i := 148) rfl)) rfl
theorem jg_739 : Cond.instanceMethod yX8_first ∈ jG := jg_in (jch_4 (List.mem_of_getElem? (i := 149) rfl)) rfl
theorem jg_740 : Cond.methodLink RL 118 yX9_first ∈ jG := jg_in (jch_7 (List.mem_of_getElem? (i := 23) rfl)) rfl
theorem jg_741 : Cond.instanceMethod yX9_first ∈ jG := jg_in (jch_7 (List.mem_of_getElem? (i := 24) rfl)) rfl
theorem jg_742 : Cond.methodLink RL 119 yX8_way ∈ jG := jg_in (jch_4 (List.mem_of_getElem? (i := 152) rfl)) rfl
theorem jg_743 : Cond.instanceMethod yX8_way ∈ jG := jg_in (jch_4 (List.mem_of_getElem? (i := 153) rfl)) rfl
theorem jg_744 : Cond.methodLink RL 122 yX9_way ∈ jG := jg_in (jch_7 (List.mem_of_getElem? (i := 27) rfl)) rfl
theorem jg_745 : Cond.instanceMethod yX9_way ∈ jG := jg_in (jch_7 (List.mem_of_getElem? (i := 28) rfl)) rfl
theorem jg_746 : Cond.methodLink RL 123 yX8_colour ∈ jG := jg_in (jch_4 (List.mem_of_getElem? (i := 169) rfl)) rfl
theorem jg_747 : Cond.instanceMethod yX8_colour ∈ jG := jg_in (jch_4 (List.mem_of_getElem? (i := 170) rfl)) rfl
theorem jg_748 : Cond.methodLink RL 126 yX9_colour ∈ jG := jg_in (jch_7 (List.mem_of_getElem? (i := 38) rfl)) rfl
theorem jg_749 : Cond.instanceMethod yX9_colour ∈ jG := jg_in (jch_7 (List.mem_of_getElem? (i := 39) rfl)) rfl
theorem jg_750 : Cond.methodLink RL 127 yX8_apart ∈ jG := jg_in (jch_4 (List.mem_of_getElem? (i := 183) rfl)) rfl
theorem jg_751 : Cond.instanceMethod yX8_apart ∈ jG := jg_in (jch_4 (List.mem_of_getElem? (i := 184) rfl)) rfl
theorem jg_752 : Cond.methodLink RL 130 yX9_apart ∈ jG := jg_in (jch_7 (List.mem_of_getElem? (i := 50) rfl)) rfl
theorem jg_753 : Cond.instanceMethod yX9_apart ∈ jG := jg_in (jch_7 (List.mem_of_getElem? (i := 51) rfl)) rfl
theorem jg_754 : Cond.methodLink RL 131 yX8_marked ∈ jG := jg_in (jch_4 (List.mem_of_getElem? (i := 196) rfl)) rfl
theorem jg_755 : Cond.instanceMethod yX8_marked ∈ jG := jg_in (jch_4 (List.mem_of_getElem? (i := 197) rfl)) rfl
theorem jg_756 : Cond.methodLink RL 134 yX9_marked ∈ jG := jg_in (jch_7 (List.mem_of_getElem? (i := 61) rfl)) rfl
theorem jg_757 : Cond.instanceMethod yX9_marked ∈ jG := jg_in (jch_7 (List.mem_of_getElem? (i := 62) rfl)) rfl
theorem jg_758 : Cond.methodLink RL 135 yX8_voice ∈ jG := jg_in (jch_4 (List.mem_of_getElem? (i := 200) rfl)) rfl
theorem jg_759 : Cond.instanceMethod yX8_voice ∈ jG := jg_in (jch_4 (List.mem_of_getElem? (i := 201) rfl)) rfl
theorem jg_760 : Cond.methodLink RL 138 yX9_voice ∈ jG := jg_in (jch_7 (List.mem_of_getElem? (i := 65) rfl)) rfl
theorem jg_761 : Cond.instanceMethod yX9_voice ∈ jG := jg_in (jch_7 (List.mem_of_getElem? (i := 66) rfl)) rfl
theorem jg_762 : Cond.methodLink RL 139 yX8_body ∈ jG := jg_in (jch_4 (List.mem_of_getElem? (i := 232) rfl)) rfl
theorem jg_763 : Cond.instanceMethod yX8_body ∈ jG := jg_in (jch_4 (List.mem_of_getElem? (i := 233) rfl)) rfl
theorem jg_764 : Cond.methodLink RL 142 yX9_body_ ∈ jG := jg_in (jch_7 (List.mem_of_getElem? (i := 89) rfl)) rfl
theorem jg_765 : Cond.instanceMethod yX9_body_ ∈ jG := jg_in (jch_7 (List.mem_of_getElem? (i := 90) rfl)) rfl
theorem jg_766 : Cond.methodLink RL 143 yX8_sheet ∈ jG := jg_in (jch_4 (List.mem_of_getElem? (i := 236) rfl)) rfl
theorem jg_767 : Cond.instanceMethod yX8_sheet ∈ jG := jg_in (jch_4 (List.mem_of_getElem? (i := 237) rfl)) rfl
theorem jg_768 : Cond.methodLink RL 146 yX9_sheet ∈ jG := jg_in (jch_7 (List.mem_of_getElem? (i := 93) rfl)) rfl
theorem jg_769 : Cond.instanceMethod yX9_sheet ∈ jG := jg_in (jch_7 (List.mem_of_getElem? (i := 94) rfl)) rfl
theorem jg_770 : Cond.methodLink RL 147 yX8_put ∈ jG := jg_in (jch_5 (List.mem_of_getElem? (i := 9) rfl)) rfl
theorem jg_771 : Cond.instanceMethod yX8_put ∈ jG := jg_in (jch_5 (List.mem_of_getElem? (i := 10) rfl)) rfl
theorem jg_772 : Cond.methodLink RL 150 yX9_put ∈ jG := jg_in (jch_7 (List.mem_of_getElem? (i := 100) rfl)) rfl
theorem jg_773 : Cond.instanceMethod yX9_put ∈ jG := jg_in (jch_7 (List.mem_of_getElem? (i := 101) rfl)) rfl
theorem jg_774 : Cond.methodLink RL 151 yX8_move ∈ jG := jg_in (jch_5 (List.mem_of_getElem? (i := 17) rfl)) rfl
theorem jg_775 : Cond.instanceMethod yX8_move ∈ jG := jg_in (jch_5 (List.mem_of_getElem? (i := 18) rfl)) rfl
theorem jg_776 : Cond.methodLink RL 155 yX9_move ∈ jG := jg_in (jch_7 (List.mem_of_getElem? (i := 104) rfl)) rfl
theorem jg_777 : Cond.instanceMethod yX9_move ∈ jG := jg_in (jch_7 (List.mem_of_getElem? (i := 105) rfl)) rfl
theorem jg_778 : Cond.methodLink RL 156 yX8_gases ∈ jG := jg_in (jch_5 (List.mem_of_getElem? (i := 26) rfl)) rfl
theorem jg_779 : Cond.instanceMethod yX8_gases ∈ jG := jg_in (jch_5 (List.mem_of_getElem? (i := 27) rfl)) rfl
theorem jg_780 : Cond.methodLink RL 159 yX9_gases ∈ jG := jg_in (jch_7 (List.mem_of_getElem? (i := 108) rfl)) rfl
theorem jg_781 : Cond.instanceMethod yX9_gases ∈ jG := jg_in (jch_7 (List.mem_of_getElem? (i := 109) rfl)) rfl
theorem jg_782 : Cond.methodLink RL 160 yX8_image ∈ jG := jg_in (jch_5 (List.mem_of_getElem? (i := 30) rfl)) rfl
theorem jg_783 : Cond.instanceMethod yX8_image ∈ jG := jg_in (jch_5 (List.mem_of_getElem? (i := 31) rfl)) rfl
theorem jg_784 : Cond.methodLink RL 164 yX9_image ∈ jG := jg_in (jch_7 (List.mem_of_getElem? (i := 112) rfl)) rfl
theorem jg_785 : Cond.instanceMethod yX9_image ∈ jG := jg_in (jch_7 (List.mem_of_getElem? (i := 113) rfl)) rfl
theorem jg_786 : Cond.methodLink RL 165 yX8_restore ∈ jG := jg_in (jch_5 (List.mem_of_getElem? (i := 34) rfl)) rfl
theorem jg_787 : Cond.instanceMethod yX8_restore ∈ jG := jg_in (jch_5 (List.mem_of_getElem? (i := 35) rfl)) rfl
theorem jg_788 : Cond.methodLink RL 168 yX9_restore ∈ jG := jg_in (jch_7 (List.mem_of_getElem? (i := 116) rfl)) rfl
theorem jg_789 : Cond.instanceMethod yX9_restore ∈ jG := jg_in (jch_7 (List.mem_of_getElem? (i := 117) rfl)) rfl
theorem jg_790 : Cond.methodLink RL 169 yX8_tell ∈ jG := jg_in (jch_5 (List.mem_of_getElem? (i := 38) rfl)) rfl
theorem jg_791 : Cond.instanceMethod yX8_tell ∈ jG := jg_in (jch_5 (List.mem_of_getElem? (i := 39) rfl)) rfl
theorem jg_792 : Cond.methodLink RL 172 yX9_tell ∈ jG := jg_in (jch_7 (List.mem_of_getElem? (i := 120) rfl)) rfl
theorem jg_793 : Cond.instanceMethod yX9_tell ∈ jG := jg_in (jch_7 (List.mem_of_getElem? (i := 121) rfl)) rfl
theorem jg_794 : Cond.methodLink RL 173 yX8_check ∈ jG := jg_in (jch_5 (List.mem_of_getElem? (i := 42) rfl)) rfl
theorem jg_795 : Cond.instanceMethod yX8_check ∈ jG := jg_in (jch_5 (List.mem_of_getElem? (i := 43) rfl)) rfl
theorem jg_796 : Cond.methodLink RL 176 yX9_check ∈ jG := jg_in (jch_7 (List.mem_of_getElem? (i := 124) rfl)) rfl
theorem jg_797 : Cond.instanceMethod yX9_check ∈ jG := jg_in (jch_7 (List.mem_of_getElem? (i := 125) rfl)) rfl
theorem jg_798 : Cond.methodLink RL 177 yX8_count ∈ jG := jg_in (jch_5 (List.mem_of_getElem? (i := 46) rfl)) rfl
theorem jg_799 : Cond.instanceMethod yX8_count ∈ jG := jg_in (jch_5 (List.mem_of_getElem? (i := 47) rfl)) rfl
theorem jg_800 : Cond.methodLink RL 180 yX9_count ∈ jG := jg_in (jch_7 (List.mem_of_getElem? (i := 128) rfl)) rfl
theorem jg_801 : Cond.instanceMethod yX9_count ∈ jG := jg_in (jch_7 (List.mem_of_getElem? (i := 129) rfl)) rfl
theorem jg_802 : Cond.methodLink RL 181 yX8_told ∈ jG := jg_in (jch_5 (List.mem_of_getElem? (i := 55) rfl)) rfl
theorem jg_803 : Cond.instanceMethod yX8_told ∈ jG := jg_in (jch_5 (List.mem_of_getElem? (i := 56) rfl)) rfl
theorem jg_804 : Cond.methodLink RL 184 yX9_told ∈ jG := jg_in (jch_7 (List.mem_of_getElem? (i := 132) rfl)) rfl
theorem jg_805 : Cond.instanceMethod yX9_told ∈ jG := jg_in (jch_7 (List.mem_of_getElem? (i := 133) rfl)) rfl
theorem jg_806 : Cond.code yX0_init cX0_init 1 none ∈ jG := jg_in (jch_1 (List.mem_of_getElem? (i := 38) rfl)) rfl
theorem jg_807 : Cond.code yX0_copyFrom cX0_copyFrom 3 none ∈ jG := jg_in (jch_4 (List.mem_of_getElem? (i := 113) rfl)) rfl
theorem jg_808 : Cond.code yX0_make cX0_make 7 none ∈ jG := jg_in (jch_2 (List.mem_of_getElem? (i := 82) rfl)) rfl
theorem jg_809 : Cond.code yX0_makeRing cX0_makeRing 12 none ∈ jG := jg_in (jch_2 (List.mem_of_getElem? (i := 89) rfl)) rfl
theorem jg_810 : Cond.code yX0_has cX0_has 2 (some .boolean) ∈ jG := jg_in (jch_2 (List.mem_of_getElem? (i := 113) rfl)) rfl
theorem jg_811 : Cond.code yX0_howMany cX0_howMany 1 (some .int) ∈ jG := jg_in (jch_2 (List.mem_of_getElem? (i := 99) rfl)) rfl
theorem jg_812 : Cond.code yX0_together cX0_together 4 (some .int) ∈ jG := jg_in (jch_4 (List.mem_of_getElem? (i := 131) rfl)) rfl
theorem jg_813 : Cond.code yX0_sidesOf cX0_sidesOf 2 (some .int) ∈ jG := jg_in (jch_2 (List.mem_of_getElem? (i := 121) rfl)) rfl
theorem jg_814 : Cond.code yX0_at cX0_at 3 (some .int) ∈ jG := jg_in (jch_2 (List.mem_of_getElem? (i := 125) rfl)) rfl
theorem jg_815 : Cond.code yX0_placeOf cX0_placeOf 4 (some .int) ∈ jG := jg_in (jch_2 (List.mem_of_getElem? (i := 213) rfl)) rfl
theorem jg_816 : Cond.code yX0_toldAt cX0_toldAt 6 (some .int) ∈ jG := jg_in (jch_2 (List.mem_of_getElem? (i := 196) rfl)) rfl
theorem jg_817 : Cond.code yX0_glasses cX0_glasses 5 (some .int) ∈ jG := jg_in (jch_2 (List.mem_of_getElem? (i := 117) rfl)) rfl
theorem jg_818 : Cond.code yX0_bitsBeside cX0_bitsBeside 6 (some .int) ∈ jG := jg_in (jch_4 (List.mem_of_getElem? (i := 63) rfl)) rfl
theorem jg_819 : Cond.code yX0_sidesBeside cX0_sidesBeside 5 (some .int) ∈ jG := jg_in (jch_4 (List.mem_of_getElem? (i := 147) rfl)) rfl
theorem jg_820 : Cond.code yX0_walls cX0_walls 3 (some .int) ∈ jG := jg_in (jch_5 (List.mem_of_getElem? (i := 53) rfl)) rfl
theorem jg_821 : Cond.code yX0_isWall cX0_isWall 3 (some .boolean) ∈ jG := jg_in (jch_2 (List.mem_of_getElem? (i := 208) rfl)) rfl
theorem jg_822 : Cond.code yX0_aheadOf cX0_aheadOf 3 (some .int) ∈ jG := jg_in (jch_2 (List.mem_of_getElem? (i := 221) rfl)) rfl
theorem jg_823 : Cond.code yX0_behind cX0_behind 3 (some .int) ∈ jG := jg_in (jch_2 (List.mem_of_getElem? (i := 225) rfl)) rfl
theorem jg_824 : Cond.code yX0_canLoseOne cX0_canLoseOne 2 (some .boolean) ∈ jG := jg_in (jch_3 (List.mem_of_getElem? (i := 8) rfl)) rfl
theorem jg_825 : Cond.code yX0_touch cX0_touch 3 (some .boolean) ∈ jG := jg_in (jch_3 (List.mem_of_getElem? (i := 0) rfl)) rfl
theorem jg_826 : Cond.code yX0_canTurn cX0_canTurn 5 (some .boolean) ∈ jG := jg_in (jch_2 (List.mem_of_getElem? (i := 233) rfl)) rfl
theorem jg_827 : Cond.code yX0_canVanish cX0_canVanish 2 (some .boolean) ∈ jG := jg_in (jch_3 (List.mem_of_getElem? (i := 12) rfl)) rfl
theorem jg_828 : Cond.code yX0_canBurst cX0_canBurst 8 (some .boolean) ∈ jG := jg_in (jch_3 (List.mem_of_getElem? (i := 4) rfl)) rfl
theorem jg_829 : Cond.code yX0_turnOver cX0_turnOver 5 none ∈ jG := jg_in (jch_3 (List.mem_of_getElem? (i := 20) rfl)) rfl
theorem jg_830 : Cond.code yX0_lose cX0_lose 4 none ∈ jG := jg_in (jch_3 (List.mem_of_getElem? (i := 36) rfl)) rfl
theorem jg_831 : Cond.code yX0_unite cX0_unite 7 none ∈ jG := jg_in (jch_3 (List.mem_of_getElem? (i := 48) rfl)) rfl
theorem jg_832 : Cond.code yX0_joinRings cX0_joinRings 8 (some .int) ∈ jG := jg_in (jch_3 (List.mem_of_getElem? (i := 58) rfl)) rfl
theorem jg_833 : Cond.code yX0_standForBoth cX0_standForBoth 5 none ∈ jG := jg_in (jch_3 (List.mem_of_getElem? (i := 62) rfl)) rfl
theorem jg_834 : Cond.code yX0_bury cX0_bury 2 none ∈ jG := jg_in (jch_3 (List.mem_of_getElem? (i := 40) rfl)) rfl
theorem jg_835 : Cond.code yX0_takeOut cX0_takeOut 6 none ∈ jG := jg_in (jch_3 (List.mem_of_getElem? (i := 24) rfl)) rfl
theorem jg_836 : Cond.code yX0_putBehind cX0_putBehind 7 none ∈ jG := jg_in (jch_3 (List.mem_of_getElem? (i := 28) rfl)) rfl
theorem jg_837 : Cond.code yX1_isOne cX1_isOne 1 (some .boolean) ∈ jG := jg_in (jch_2 (List.mem_of_getElem? (i := 171) rfl)) rfl
theorem jg_838 : Cond.initialized RX1 ∈ jG := jg_in (jch_1 (List.mem_of_getElem? (i := 13) rfl)) rfl
theorem jg_839 : Cond.code yX1_above cX1_above 1 (some .int) ∈ jG := jg_in (jch_2 (List.mem_of_getElem? (i := 177) rfl)) rfl
theorem jg_840 : Cond.code yX1_isUnder cX1_isUnder 4 (some .boolean) ∈ jG := jg_in (jch_2 (List.mem_of_getElem? (i := 174) rfl)) rfl
theorem jg_841 : Cond.code yX1_lets cX1_lets 1 (some .int) ∈ jG := jg_in (jch_2 (List.mem_of_getElem? (i := 139) rfl)) rfl
theorem jg_842 : Cond.code yX1_dry cX1_dry 2 (some .int) ∈ jG := jg_in (jch_2 (List.mem_of_getElem? (i := 136) rfl)) rfl
theorem jg_843 : Cond.code yX2_init cX2_init 1 none ∈ jG := jg_in (jch_1 (List.mem_of_getElem? (i := 171) rfl)) rfl
theorem jg_844 : Cond.code yX2_namesOf cX2_namesOf 1 (some (.object "java/lang/String")) ∈ jG := jg_in (jch_3 (List.mem_of_getElem? (i := 90) rfl)) rfl
theorem jg_845 : Cond.code yX2_read cX2_read 4 (some .boolean) ∈ jG := jg_in (jch_3 (List.mem_of_getElem? (i := 84) rfl)) rfl
theorem jg_846 : Cond.code yX2_next cX2_next 1 (some .int) ∈ jG := jg_in (jch_3 (List.mem_of_getElem? (i := 125) rfl)) rfl
theorem jg_847 : Cond.code yX2_nextIs cX2_nextIs 2 (some .boolean) ∈ jG := jg_in (jch_3 (List.mem_of_getElem? (i := 121) rfl)) rfl
theorem jg_848 : Cond.code yX2_note cX2_note 2 none ∈ jG := jg_in (jch_3 (List.mem_of_getElem? (i := 218) rfl)) rfl
theorem jg_849 : Cond.code yX2_either cX2_either 3 none ∈ jG := jg_in (jch_3 (List.mem_of_getElem? (i := 97) rfl)) rfl
theorem jg_850 : Cond.code yX2_both cX2_both 3 none ∈ jG := jg_in (jch_3 (List.mem_of_getElem? (i := 101) rfl)) rfl
theorem jg_851 : Cond.code yX2_compared cX2_compared 3 none ∈ jG := jg_in (jch_3 (List.mem_of_getElem? (i := 105) rfl)) rfl
theorem jg_852 : Cond.code yX2_sum cX2_sum 4 none ∈ jG := jg_in (jch_3 (List.mem_of_getElem? (i := 109) rfl)) rfl
theorem jg_853 : Cond.code yX2_product cX2_product 4 none ∈ jG := jg_in (jch_3 (List.mem_of_getElem? (i := 113) rfl)) rfl
theorem jg_854 : Cond.code yX2_single cX2_single 6 none ∈ jG := jg_in (jch_3 (List.mem_of_getElem? (i := 117) rfl)) rfl
theorem jg_855 : Cond.code yX2_close cX2_close 1 none ∈ jG := jg_in (jch_3 (List.mem_of_getElem? (i := 225) rfl)) rfl
theorem jg_856 : Cond.code yX2_isDigit cX2_isDigit 1 (some .boolean) ∈ jG := jg_in (jch_3 (List.mem_of_getElem? (i := 210) rfl)) rfl
theorem jg_857 : Cond.code yX2_number cX2_number 3 none ∈ jG := jg_in (jch_3 (List.mem_of_getElem? (i := 214) rfl)) rfl
theorem jg_858 : Cond.code yX3_init cX3_init 1 none ∈ jG := jg_in (jch_1 (List.mem_of_getElem? (i := 204) rfl)) rfl
theorem jg_859 : Cond.code yX3_look cX3_look 3 none ∈ jG := jg_in (jch_4 (List.mem_of_getElem? (i := 159) rfl)) rfl
theorem jg_860 : Cond.code yX3_wallsBetween cX3_wallsBetween 5 (some .int) ∈ jG := jg_in (jch_4 (List.mem_of_getElem? (i := 164) rfl)) rfl
theorem jg_861 : Cond.code yX3_besideAny cX3_besideAny 4 (some .int) ∈ jG := jg_in (jch_4 (List.mem_of_getElem? (i := 168) rfl)) rfl
theorem jg_862 : Cond.code yX3_canPaint cX3_canPaint 2 (some .boolean) ∈ jG := jg_in (jch_4 (List.mem_of_getElem? (i := 176) rfl)) rfl
theorem jg_863 : Cond.code yX3_paintFrom cX3_paintFrom 6 (some .boolean) ∈ jG := jg_in (jch_4 (List.mem_of_getElem? (i := 180) rfl)) rfl
theorem jg_864 : Cond.code yX3_mostApart cX3_mostApart 1 (some .int) ∈ jG := jg_in (jch_4 (List.mem_of_getElem? (i := 190) rfl)) rfl
theorem jg_865 : Cond.code yX3_apartIn cX3_apartIn 6 (some .int) ∈ jG := jg_in (jch_4 (List.mem_of_getElem? (i := 193) rfl)) rfl
theorem jg_866 : Cond.code yX4_init cX4_init 1 none ∈ jG := jg_in (jch_2 (List.mem_of_getElem? (i := 18) rfl)) rfl
theorem jg_867 : Cond.code yX4_isOne cX4_isOne 1 (some .boolean) ∈ jG := jg_in (jch_5 (List.mem_of_getElem? (i := 2) rfl)) rfl
theorem jg_868 : Cond.code yX4_lay cX4_lay 4 none ∈ jG := jg_in (jch_5 (List.mem_of_getElem? (i := 6) rfl)) rfl
theorem jg_869 : Cond.code yX4_set cX4_set 4 none ∈ jG := jg_in (jch_5 (List.mem_of_getElem? (i := 16) rfl)) rfl
theorem jg_870 : Cond.code yX4_haveRun cX4_haveRun 4 (some .boolean) ∈ jG := jg_in (jch_5 (List.mem_of_getElem? (i := 24) rfl)) rfl
theorem jg_871 : Cond.code yX5_init cX5_init 1 none ∈ jG := jg_in (jch_1 (List.mem_of_getElem? (i := 99) rfl)) rfl
theorem jg_872 : Cond.code yX5_ofName cX5_ofName 1 (some .int) ∈ jG := jg_in (jch_3 (List.mem_of_getElem? (i := 221) rfl)) rfl
theorem jg_873 : Cond.code yX5_ofSign cX5_ofSign 1 (some .int) ∈ jG := jg_in (jch_2 (List.mem_of_getElem? (i := 161) rfl)) rfl
theorem jg_874 : Cond.code yX5_isTold cX5_isTold 1 (some .boolean) ∈ jG := jg_in (jch_2 (List.mem_of_getElem? (i := 147) rfl)) rfl
theorem jg_875 : Cond.code yX5_take cX5_take 3 none ∈ jG := jg_in (jch_3 (List.mem_of_getElem? (i := 230) rfl)) rfl
theorem jg_876 : Cond.code yX5_copyFrom cX5_copyFrom 2 none ∈ jG := jg_in (jch_4 (List.mem_of_getElem? (i := 117) rfl)) rfl
theorem jg_877 : Cond.code yX5_value cX5_value 5 (some .int) ∈ jG := jg_in (jch_2 (List.mem_of_getElem? (i := 155) rfl)) rfl
theorem jg_878 : Cond.code yX5_plain cX5_plain 3 (some .int) ∈ jG := jg_in (jch_2 (List.mem_of_getElem? (i := 158) rfl)) rfl
theorem jg_879 : Cond.code yX5_worked cX5_worked 3 (some .int) ∈ jG := jg_in (jch_2 (List.mem_of_getElem? (i := 164) rfl)) rfl
theorem jg_880 : Cond.code yX6_init cX6_init 1 none ∈ jG := jg_in (jch_1 (List.mem_of_getElem? (i := 224) rfl)) rfl
theorem jg_881 : Cond.code yX6_answer cX6_answer 5 (some .int) ∈ jG := jg_in (jch_4 (List.mem_of_getElem? (i := 207) rfl)) rfl
theorem jg_882 : Cond.code yX6_keepTrace cX6_keepTrace 1 none ∈ jG := jg_in (jch_4 (List.mem_of_getElem? (i := 230) rfl)) rfl
theorem jg_883 : Cond.code yX6_bodyAt cX6_bodyAt 3 (some .int) ∈ jG := jg_in (jch_4 (List.mem_of_getElem? (i := 215) rfl)) rfl
theorem jg_884 : Cond.code yX6_say cX6_say 7 (some .int) ∈ jG := jg_in (jch_4 (List.mem_of_getElem? (i := 212) rfl)) rfl
theorem jg_885 : Cond.code yX6_speak cX6_speak 5 (some .int) ∈ jG := jg_in (jch_4 (List.mem_of_getElem? (i := 222) rfl)) rfl
theorem jg_886 : Cond.code yX6_parting cX6_parting 3 (some .int) ∈ jG := jg_in (jch_4 (List.mem_of_getElem? (i := 226) rfl)) rfl
theorem jg_887 : Cond.code yX7_init cX7_init 1 none ∈ jG := jg_in (jch_1 (List.mem_of_getElem? (i := 32) rfl)) rfl
theorem jg_888 : Cond.code yX7_copyFrom cX7_copyFrom 3 none ∈ jG := jg_in (jch_4 (List.mem_of_getElem? (i := 109) rfl)) rfl
theorem jg_889 : Cond.code yX7_startAnew cX7_startAnew 4 none ∈ jG := jg_in (jch_2 (List.mem_of_getElem? (i := 78) rfl)) rfl
theorem jg_890 : Cond.code yX7_takeBytes cX7_takeBytes 5 none ∈ jG := jg_in (jch_3 (List.mem_of_getElem? (i := 75) rfl)) rfl
theorem jg_891 : Cond.code yX7_dry cX7_dry 2 (some .int) ∈ jG := jg_in (jch_2 (List.mem_of_getElem? (i := 132) rfl)) rfl
theorem jg_892 : Cond.code yX7_law cX7_law 3 (some .int) ∈ jG := jg_in (jch_4 (List.mem_of_getElem? (i := 12) rfl)) rfl
theorem jg_893 : Cond.code yX7_burstOf cX7_burstOf 5 (some .int) ∈ jG := jg_in (jch_4 (List.mem_of_getElem? (i := 78) rfl)) rfl
theorem jg_894 : Cond.code yX7_mark cX7_mark 2 (some .int) ∈ jG := jg_in (jch_2 (List.mem_of_getElem? (i := 143) rfl)) rfl
theorem jg_895 : Cond.code yX7_name cX7_name 6 none ∈ jG := jg_in (jch_2 (List.mem_of_getElem? (i := 151) rfl)) rfl
theorem jg_896 : Cond.code yX7_passing cX7_passing 5 (some .int) ∈ jG := jg_in (jch_4 (List.mem_of_getElem? (i := 8) rfl)) rfl
theorem jg_897 : Cond.code yX7_goOn cX7_goOn 1 none ∈ jG := jg_in (jch_4 (List.mem_of_getElem? (i := 30) rfl)) rfl
theorem jg_898 : Cond.code yX7_passGas cX7_passGas 4 none ∈ jG := jg_in (jch_4 (List.mem_of_getElem? (i := 34) rfl)) rfl
theorem jg_899 : Cond.code yX7_give cX7_give 6 none ∈ jG := jg_in (jch_4 (List.mem_of_getElem? (i := 43) rfl)) rfl
theorem jg_900 : Cond.code yX7_runDown cX7_runDown 3 none ∈ jG := jg_in (jch_4 (List.mem_of_getElem? (i := 49) rfl)) rfl
theorem jg_901 : Cond.code yX7_giveWater cX7_giveWater 7 none ∈ jG := jg_in (jch_4 (List.mem_of_getElem? (i := 54) rfl)) rfl
theorem jg_902 : Cond.code yX7_bitsBelow cX7_bitsBelow 4 (some .int) ∈ jG := jg_in (jch_4 (List.mem_of_getElem? (i := 59) rfl)) rfl
theorem jg_903 : Cond.code yX7_drain cX7_drain 2 none ∈ jG := jg_in (jch_4 (List.mem_of_getElem? (i := 69) rfl)) rfl
theorem jg_904 : Cond.code yX7_burstDry cX7_burstDry 3 none ∈ jG := jg_in (jch_4 (List.mem_of_getElem? (i := 74) rfl)) rfl
theorem jg_905 : Cond.code yX7_drawn cX7_drawn 2 (some .boolean) ∈ jG := jg_in (jch_4 (List.mem_of_getElem? (i := 84) rfl)) rfl
theorem jg_906 : Cond.code yX7_loseEmpty cX7_loseEmpty 2 none ∈ jG := jg_in (jch_4 (List.mem_of_getElem? (i := 91) rfl)) rfl
theorem jg_907 : Cond.code yX7_turnFirst cX7_turnFirst 5 none ∈ jG := jg_in (jch_4 (List.mem_of_getElem? (i := 97) rfl)) rfl
theorem jg_908 : Cond.code yX8_init cX8_init 1 none ∈ jG := jg_in (jch_1 (List.mem_of_getElem? (i := 24) rfl)) rfl
theorem jg_909 : Cond.code yX8_no cX8_no 2 (some .int) ∈ jG := jg_in (jch_2 (List.mem_of_getElem? (i := 73) rfl)) rfl
theorem jg_910 : Cond.code yX8_within cX8_within 3 (some .boolean) ∈ jG := jg_in (jch_2 (List.mem_of_getElem? (i := 68) rfl)) rfl
theorem jg_911 : Cond.code yX8_foam cX8_foam 4 (some .int) ∈ jG := jg_in (jch_2 (List.mem_of_getElem? (i := 65) rfl)) rfl
theorem jg_912 : Cond.code yX8_bubbleIs cX8_bubbleIs 4 (some .int) ∈ jG := jg_in (jch_2 (List.mem_of_getElem? (i := 109) rfl)) rfl
theorem jg_913 : Cond.code yX8_as cX8_as 3 (some .int) ∈ jG := jg_in (jch_2 (List.mem_of_getElem? (i := 168) rfl)) rfl
theorem jg_914 : Cond.code yX8_become cX8_become 4 (some .int) ∈ jG := jg_in (jch_2 (List.mem_of_getElem? (i := 184) rfl)) rfl
theorem jg_915 : Cond.code yX8_fill cX8_fill 6 (some .int) ∈ jG := jg_in (jch_2 (List.mem_of_getElem? (i := 188) rfl)) rfl
theorem jg_916 : Cond.code yX8_ring cX8_ring 3 (some .int) ∈ jG := jg_in (jch_2 (List.mem_of_getElem? (i := 192) rfl)) rfl
theorem jg_917 : Cond.code yX8_beside cX8_beside 3 (some .int) ∈ jG := jg_in (jch_2 (List.mem_of_getElem? (i := 200) rfl)) rfl
theorem jg_918 : Cond.code yX8_end cX8_end 4 (some .int) ∈ jG := jg_in (jch_2 (List.mem_of_getElem? (i := 217) rfl)) rfl
theorem jg_919 : Cond.code yX8_can cX8_can 5 (some .int) ∈ jG := jg_in (jch_2 (List.mem_of_getElem? (i := 229) rfl)) rfl
theorem jg_920 : Cond.code yX8_turn cX8_turn 3 (some .int) ∈ jG := jg_in (jch_3 (List.mem_of_getElem? (i := 16) rfl)) rfl
theorem jg_921 : Cond.code yX8_vanish cX8_vanish 2 (some .int) ∈ jG := jg_in (jch_3 (List.mem_of_getElem? (i := 32) rfl)) rfl
theorem jg_922 : Cond.code yX8_burst cX8_burst 3 (some .int) ∈ jG := jg_in (jch_3 (List.mem_of_getElem? (i := 44) rfl)) rfl
theorem jg_923 : Cond.code yX8_areBubbles cX8_areBubbles 3 (some .boolean) ∈ jG := jg_in (jch_2 (List.mem_of_getElem? (i := 204) rfl)) rfl
theorem jg_924 : Cond.code yX8_feed cX8_feed 4 (some .int) ∈ jG := jg_in (jch_3 (List.mem_of_getElem? (i := 71) rfl)) rfl
theorem jg_925 : Cond.code yX8_text cX8_text 3 (some .int) ∈ jG := jg_in (jch_3 (List.mem_of_getElem? (i := 80) rfl)) rfl
theorem jg_926 : Cond.code yX8_untell cX8_untell 4 (some .int) ∈ jG := jg_in (jch_3 (List.mem_of_getElem? (i := 235) rfl)) rfl
theorem jg_927 : Cond.code yX8_rule cX8_rule 4 (some .int) ∈ jG := jg_in (jch_4 (List.mem_of_getElem? (i := 0) rfl)) rfl
theorem jg_928 : Cond.code yX8_passes cX8_passes 3 (some .int) ∈ jG := jg_in (jch_4 (List.mem_of_getElem? (i := 4) rfl)) rfl
theorem jg_929 : Cond.code yX8_tick cX8_tick 3 (some .int) ∈ jG := jg_in (jch_4 (List.mem_of_getElem? (i := 26) rfl)) rfl
theorem jg_930 : Cond.code yX8_stands cX8_stands 4 (some .int) ∈ jG := jg_in (jch_4 (List.mem_of_getElem? (i := 105) rfl)) rfl
theorem jg_931 : Cond.code yX8_seed cX8_seed 3 (some .int) ∈ jG := jg_in (jch_4 (List.mem_of_getElem? (i := 123) rfl)) rfl
theorem jg_932 : Cond.code yX8_all cX8_all 2 (some .int) ∈ jG := jg_in (jch_4 (List.mem_of_getElem? (i := 127) rfl)) rfl
theorem jg_933 : Cond.code yX8_pace cX8_pace 2 (some .int) ∈ jG := jg_in (jch_4 (List.mem_of_getElem? (i := 135) rfl)) rfl
theorem jg_934 : Cond.code yX8_sides cX8_sides 4 (some .int) ∈ jG := jg_in (jch_4 (List.mem_of_getElem? (i := 139) rfl)) rfl
theorem jg_935 : Cond.code yX8_around cX8_around 5 (some .int) ∈ jG := jg_in (jch_4 (List.mem_of_getElem? (i := 143) rfl)) rfl
theorem jg_936 : Cond.code yX8_first cX8_first 6 (some .int) ∈ jG := jg_in (jch_4 (List.mem_of_getElem? (i := 151) rfl)) rfl
theorem jg_937 : Cond.code yX8_way cX8_way 4 (some .int) ∈ jG := jg_in (jch_4 (List.mem_of_getElem? (i := 155) rfl)) rfl
theorem jg_938 : Cond.code yX8_colour cX8_colour 3 (some .int) ∈ jG := jg_in (jch_4 (List.mem_of_getElem? (i := 172) rfl)) rfl
theorem jg_939 : Cond.code yX8_apart cX8_apart 3 (some .int) ∈ jG := jg_in (jch_4 (List.mem_of_getElem? (i := 186) rfl)) rfl
theorem jg_940 : Cond.code yX8_marked cX8_marked 7 (some .int) ∈ jG := jg_in (jch_4 (List.mem_of_getElem? (i := 199) rfl)) rfl
theorem jg_941 : Cond.code yX8_voice cX8_voice 5 (some .int) ∈ jG := jg_in (jch_4 (List.mem_of_getElem? (i := 203) rfl)) rfl
theorem jg_942 : Cond.code yX8_body cX8_body 2 (some .int) ∈ jG := jg_in (jch_4 (List.mem_of_getElem? (i := 235) rfl)) rfl
theorem jg_943 : Cond.code yX8_sheet cX8_sheet 4 (some .int) ∈ jG := jg_in (jch_4 (List.mem_of_getElem? (i := 239) rfl)) rfl
theorem jg_944 : Cond.code yX8_put cX8_put 4 (some .int) ∈ jG := jg_in (jch_5 (List.mem_of_getElem? (i := 12) rfl)) rfl
theorem jg_945 : Cond.code yX8_move cX8_move 6 (some .int) ∈ jG := jg_in (jch_5 (List.mem_of_getElem? (i := 20) rfl)) rfl
theorem jg_946 : Cond.code yX8_gases cX8_gases 5 (some .int) ∈ jG := jg_in (jch_5 (List.mem_of_getElem? (i := 29) rfl)) rfl
theorem jg_947 : Cond.code yX8_image cX8_image 1 (some .int) ∈ jG := jg_in (jch_5 (List.mem_of_getElem? (i := 33) rfl)) rfl
theorem jg_948 : Cond.code yX8_restore cX8_restore 1 (some .int) ∈ jG := jg_in (jch_5 (List.mem_of_getElem? (i := 37) rfl)) rfl
theorem jg_949 : Cond.code yX8_tell cX8_tell 2 (some .int) ∈ jG := jg_in (jch_5 (List.mem_of_getElem? (i := 41) rfl)) rfl
theorem jg_950 : Cond.code yX8_check cX8_check 5 (some .int) ∈ jG := jg_in (jch_5 (List.mem_of_getElem? (i := 45) rfl)) rfl
theorem jg_951 : Cond.code yX8_count cX8_count 2 (some .int) ∈ jG := jg_in (jch_5 (List.mem_of_getElem? (i := 49) rfl)) rfl
theorem jg_952 : Cond.code yX8_told cX8_told 2 (some .int) ∈ jG := jg_in (jch_5 (List.mem_of_getElem? (i := 58) rfl)) rfl
theorem jg_953 : Cond.code yX9_init cX9_init 1 none ∈ jG := jg_in (jch_5 (List.mem_of_getElem? (i := 63) rfl)) rfl
theorem jg_954 : Cond.code yX9_finding cX9_finding 2 (some .int) ∈ jG := jg_in (jch_5 (List.mem_of_getElem? (i := 161) rfl)) rfl
theorem jg_955 : Cond.code yX9_within cX9_within 3 (some .boolean) ∈ jG := jg_in (jch_5 (List.mem_of_getElem? (i := 155) rfl)) rfl
theorem jg_956 : Cond.code yX9_has cX9_has 2 (some .boolean) ∈ jG := jg_in (jch_7 (List.mem_of_getElem? (i := 33) rfl)) rfl
theorem jg_957 : Cond.code yX9_copy cX9_copy 3 none ∈ jG := jg_in (jch_7 (List.mem_of_getElem? (i := 2) rfl)) rfl
theorem jg_958 : Cond.code yX9_comes cX9_comes 4 (some .int) ∈ jG := jg_in (jch_5 (List.mem_of_getElem? (i := 236) rfl)) rfl
theorem jg_959 : Cond.code yX9_of cX9_of 3 (some .int) ∈ jG := jg_in (jch_5 (List.mem_of_getElem? (i := 181) rfl)) rfl
theorem jg_960 : Cond.code yX9_tells cX9_tells 4 none ∈ jG := jg_in (jch_5 (List.mem_of_getElem? (i := 166) rfl)) rfl
theorem jg_961 : Cond.code yX9_is cX9_is 2 (some .boolean) ∈ jG := jg_in (jch_5 (List.mem_of_getElem? (i := 189) rfl)) rfl
theorem jg_962 : Cond.code yX9_sidesOf cX9_sidesOf 2 (some .int) ∈ jG := jg_in (jch_5 (List.mem_of_getElem? (i := 177) rfl)) rfl
theorem jg_963 : Cond.code yX9_at cX9_at 4 (some .int) ∈ jG := jg_in (jch_6 (List.mem_of_getElem? (i := 12) rfl)) rfl
theorem jg_964 : Cond.code yX9_placeIn cX9_placeIn 5 (some .int) ∈ jG := jg_in (jch_6 (List.mem_of_getElem? (i := 29) rfl)) rfl
theorem jg_965 : Cond.code yX9_opens cX9_opens 5 none ∈ jG := jg_in (jch_6 (List.mem_of_getElem? (i := 74) rfl)) rfl
theorem jg_966 : Cond.code yX9_shuts cX9_shuts 4 none ∈ jG := jg_in (jch_6 (List.mem_of_getElem? (i := 70) rfl)) rfl
theorem jg_967 : Cond.code yX9_grows cX9_grows 4 none ∈ jG := jg_in (jch_5 (List.mem_of_getElem? (i := 173) rfl)) rfl
theorem jg_968 : Cond.code yX9_foam cX9_foam 9 (some .int) ∈ jG := jg_in (jch_5 (List.mem_of_getElem? (i := 152) rfl)) rfl
theorem jg_969 : Cond.code yX9_placed cX9_placed 4 (some .int) ∈ jG := jg_in (jch_5 (List.mem_of_getElem? (i := 169) rfl)) rfl
theorem jg_970 : Cond.code yX9_above cX9_above 1 (some .int) ∈ jG := jg_in (jch_5 (List.mem_of_getElem? (i := 227) rfl)) rfl
theorem jg_971 : Cond.code yX9_letsOf cX9_letsOf 2 (some .int) ∈ jG := jg_in (jch_5 (List.mem_of_getElem? (i := 201) rfl)) rfl
theorem jg_972 : Cond.code yX9_dryOf cX9_dryOf 3 (some .int) ∈ jG := jg_in (jch_5 (List.mem_of_getElem? (i := 197) rfl)) rfl
theorem jg_973 : Cond.code yX9_glassesOf cX9_glassesOf 4 (some .int) ∈ jG := jg_in (jch_5 (List.mem_of_getElem? (i := 193) rfl)) rfl
theorem jg_974 : Cond.code yX9_markOf cX9_markOf 2 (some .int) ∈ jG := jg_in (jch_5 (List.mem_of_getElem? (i := 205) rfl)) rfl
theorem jg_975 : Cond.code yX9_bubbleIs cX9_bubbleIs 3 (some .int) ∈ jG := jg_in (jch_5 (List.mem_of_getElem? (i := 185) rfl)) rfl
theorem jg_976 : Cond.code yX9_as cX9_as 4 (some .int) ∈ jG := jg_in (jch_5 (List.mem_of_getElem? (i := 224) rfl)) rfl
theorem jg_977 : Cond.code yX9_become cX9_become 3 (some .int) ∈ jG := jg_in (jch_5 (List.mem_of_getElem? (i := 232) rfl)) rfl
theorem jg_978 : Cond.code yX9_fill cX9_fill 4 (some .int) ∈ jG := jg_in (jch_6 (List.mem_of_getElem? (i := 0) rfl)) rfl
theorem jg_979 : Cond.code yX9_leastIn cX9_leastIn 4 (some .int) ∈ jG := jg_in (jch_6 (List.mem_of_getElem? (i := 8) rfl)) rfl
theorem jg_980 : Cond.code yX9_ring cX9_ring 3 (some .int) ∈ jG := jg_in (jch_6 (List.mem_of_getElem? (i := 4) rfl)) rfl
theorem jg_981 : Cond.code yX9_isWall cX9_isWall 3 (some .boolean) ∈ jG := jg_in (jch_6 (List.mem_of_getElem? (i := 25) rfl)) rfl
theorem jg_982 : Cond.code yX9_areTwo cX9_areTwo 3 (some .boolean) ∈ jG := jg_in (jch_6 (List.mem_of_getElem? (i := 21) rfl)) rfl
theorem jg_983 : Cond.code yX9_beside cX9_beside 3 (some .int) ∈ jG := jg_in (jch_6 (List.mem_of_getElem? (i := 17) rfl)) rfl
theorem jg_984 : Cond.code yX9_ahead cX9_ahead 3 (some .int) ∈ jG := jg_in (jch_6 (List.mem_of_getElem? (i := 38) rfl)) rfl
theorem jg_985 : Cond.code yX9_behind cX9_behind 3 (some .int) ∈ jG := jg_in (jch_6 (List.mem_of_getElem? (i := 42) rfl)) rfl
theorem jg_986 : Cond.code yX9_end cX9_end 4 (some .int) ∈ jG := jg_in (jch_6 (List.mem_of_getElem? (i := 33) rfl)) rfl
theorem jg_987 : Cond.code yX9_canTurn cX9_canTurn 5 (some .boolean) ∈ jG := jg_in (jch_6 (List.mem_of_getElem? (i := 50) rfl)) rfl
theorem jg_988 : Cond.code yX9_turns cX9_turns 5 none ∈ jG := jg_in (jch_6 (List.mem_of_getElem? (i := 66) rfl)) rfl
theorem jg_989 : Cond.code yX9_canVanish cX9_canVanish 5 (some .boolean) ∈ jG := jg_in (jch_6 (List.mem_of_getElem? (i := 58) rfl)) rfl
theorem jg_990 : Cond.code yX9_vanishes cX9_vanishes 4 none ∈ jG := jg_in (jch_6 (List.mem_of_getElem? (i := 82) rfl)) rfl
theorem jg_991 : Cond.code yX9_canBurst cX9_canBurst 8 (some .boolean) ∈ jG := jg_in (jch_6 (List.mem_of_getElem? (i := 54) rfl)) rfl
theorem jg_992 : Cond.code yX9_bursts cX9_bursts 9 (some .int) ∈ jG := jg_in (jch_6 (List.mem_of_getElem? (i := 94) rfl)) rfl
theorem jg_993 : Cond.code yX9_can cX9_can 5 (some .int) ∈ jG := jg_in (jch_6 (List.mem_of_getElem? (i := 46) rfl)) rfl
theorem jg_994 : Cond.code yX9_turn cX9_turn 3 (some .int) ∈ jG := jg_in (jch_6 (List.mem_of_getElem? (i := 62) rfl)) rfl
theorem jg_995 : Cond.code yX9_many cX9_many 3 (some .int) ∈ jG := jg_in (jch_6 (List.mem_of_getElem? (i := 86) rfl)) rfl
theorem jg_996 : Cond.code yX9_vanish cX9_vanish 2 (some .int) ∈ jG := jg_in (jch_6 (List.mem_of_getElem? (i := 78) rfl)) rfl
theorem jg_997 : Cond.code yX9_burst cX9_burst 3 (some .int) ∈ jG := jg_in (jch_6 (List.mem_of_getElem? (i := 90) rfl)) rfl
theorem jg_998 : Cond.code yX9_feed cX9_feed 5 (some .int) ∈ jG := jg_in (jch_6 (List.mem_of_getElem? (i := 100) rfl)) rfl
theorem jg_999 : Cond.code yX9_here cX9_here 1 (some .int) ∈ jG := jg_in (jch_6 (List.mem_of_getElem? (i := 134) rfl)) rfl
theorem jg_1000 : Cond.code yX9_takes cX9_takes 3 (some .boolean) ∈ jG := jg_in (jch_6 (List.mem_of_getElem? (i := 142) rfl)) rfl
theorem jg_1001 : Cond.code yX9_codes cX9_codes 2 none ∈ jG := jg_in (jch_6 (List.mem_of_getElem? (i := 138) rfl)) rfl
theorem jg_1002 : Cond.code yX9_either cX9_either 1 none ∈ jG := jg_in (jch_6 (List.mem_of_getElem? (i := 110) rfl)) rfl
theorem jg_1003 : Cond.code yX9_both cX9_both 1 none ∈ jG := jg_in (jch_6 (List.mem_of_getElem? (i := 114) rfl)) rfl
theorem jg_1004 : Cond.code yX9_compared cX9_compared 2 none ∈ jG := jg_in (jch_6 (List.mem_of_getElem? (i := 118) rfl)) rfl
theorem jg_1005 : Cond.code yX9_sum cX9_sum 2 none ∈ jG := jg_in (jch_6 (List.mem_of_getElem? (i := 122) rfl)) rfl
theorem jg_1006 : Cond.code yX9_product cX9_product 2 none ∈ jG := jg_in (jch_6 (List.mem_of_getElem? (i := 126) rfl)) rfl
theorem jg_1007 : Cond.code yX9_nameOf cX9_nameOf 4 (some .int) ∈ jG := jg_in (jch_6 (List.mem_of_getElem? (i := 146) rfl)) rfl
theorem jg_1008 : Cond.code yX9_one cX9_one 4 none ∈ jG := jg_in (jch_6 (List.mem_of_getElem? (i := 130) rfl)) rfl
theorem jg_1009 : Cond.code yX9_text cX9_text 3 (some .int) ∈ jG := jg_in (jch_6 (List.mem_of_getElem? (i := 106) rfl)) rfl
theorem jg_1010 : Cond.code yX9_untell cX9_untell 2 (some .int) ∈ jG := jg_in (jch_6 (List.mem_of_getElem? (i := 171) rfl)) rfl
theorem jg_1011 : Cond.code yX9_done cX9_done 3 (some .int) ∈ jG := jg_in (jch_5 (List.mem_of_getElem? (i := 220) rfl)) rfl
theorem jg_1012 : Cond.code yX9_worked cX9_worked 5 (some .int) ∈ jG := jg_in (jch_5 (List.mem_of_getElem? (i := 217) rfl)) rfl
theorem jg_1013 : Cond.code yX9_hasText cX9_hasText 2 (some .boolean) ∈ jG := jg_in (jch_5 (List.mem_of_getElem? (i := 213) rfl)) rfl
theorem jg_1014 : Cond.code yX9_given cX9_given 7 (some .int) ∈ jG := jg_in (jch_5 (List.mem_of_getElem? (i := 209) rfl)) rfl
theorem jg_1015 : Cond.code yX9_rule cX9_rule 4 (some .int) ∈ jG := jg_in (jch_6 (List.mem_of_getElem? (i := 175) rfl)) rfl
theorem jg_1016 : Cond.code yX9_passesBy cX9_passesBy 7 (some .int) ∈ jG := jg_in (jch_6 (List.mem_of_getElem? (i := 183) rfl)) rfl
theorem jg_1017 : Cond.code yX9_passes cX9_passes 3 (some .int) ∈ jG := jg_in (jch_6 (List.mem_of_getElem? (i := 179) rfl)) rfl
theorem jg_1018 : Cond.code yX9_gives cX9_gives 5 none ∈ jG := jg_in (jch_6 (List.mem_of_getElem? (i := 205) rfl)) rfl
theorem jg_1019 : Cond.code yX9_passesAll cX9_passesAll 4 none ∈ jG := jg_in (jch_6 (List.mem_of_getElem? (i := 200) rfl)) rfl
theorem jg_1020 : Cond.code yX9_drains cX9_drains 2 none ∈ jG := jg_in (jch_6 (List.mem_of_getElem? (i := 217) rfl)) rfl
theorem jg_1021 : Cond.code yX9_isLower cX9_isLower 3 (some .boolean) ∈ jG := jg_in (jch_6 (List.mem_of_getElem? (i := 213) rfl)) rfl
theorem jg_1022 : Cond.code yX9_runs cX9_runs 7 none ∈ jG := jg_in (jch_6 (List.mem_of_getElem? (i := 209) rfl)) rfl
theorem jg_1023 : Cond.code yX9_drawn cX9_drawn 2 (some .int) ∈ jG := jg_in (jch_6 (List.mem_of_getElem? (i := 230) rfl)) rfl
theorem jg_1024 : Cond.code yX9_isDry cX9_isDry 4 (some .boolean) ∈ jG := jg_in (jch_6 (List.mem_of_getElem? (i := 226) rfl)) rfl
theorem jg_1025 : Cond.code yX9_burstsAll cX9_burstsAll 5 none ∈ jG := jg_in (jch_6 (List.mem_of_getElem? (i := 222) rfl)) rfl
theorem jg_1026 : Cond.code yX9_turnsFirst cX9_turnsFirst 7 none ∈ jG := jg_in (jch_6 (List.mem_of_getElem? (i := 235) rfl)) rfl
theorem jg_1027 : Cond.code yX9_ticks cX9_ticks 2 none ∈ jG := jg_in (jch_6 (List.mem_of_getElem? (i := 196) rfl)) rfl
theorem jg_1028 : Cond.code yX9_tick cX9_tick 3 (some .int) ∈ jG := jg_in (jch_6 (List.mem_of_getElem? (i := 192) rfl)) rfl
theorem jg_1029 : Cond.code yX9_stands cX9_stands 5 (some .int) ∈ jG := jg_in (jch_6 (List.mem_of_getElem? (i := 239) rfl)) rfl
theorem jg_1030 : Cond.code yX9_seed cX9_seed 2 (some .int) ∈ jG := jg_in (jch_7 (List.mem_of_getElem? (i := 6) rfl)) rfl
theorem jg_1031 : Cond.code yX9_all cX9_all 4 (some .int) ∈ jG := jg_in (jch_7 (List.mem_of_getElem? (i := 10) rfl)) rfl
theorem jg_1032 : Cond.code yX9_pace cX9_pace 2 (some .int) ∈ jG := jg_in (jch_7 (List.mem_of_getElem? (i := 14) rfl)) rfl
theorem jg_1033 : Cond.code yX9_sides cX9_sides 4 (some .int) ∈ jG := jg_in (jch_7 (List.mem_of_getElem? (i := 18) rfl)) rfl
theorem jg_1034 : Cond.code yX9_around cX9_around 6 (some .int) ∈ jG := jg_in (jch_7 (List.mem_of_getElem? (i := 22) rfl)) rfl
theorem jg_1035 : Cond.code yX9_first cX9_first 6 (some .int) ∈ jG := jg_in (jch_7 (List.mem_of_getElem? (i := 26) rfl)) rfl
theorem jg_1036 : Cond.code yX9_besides cX9_besides 5 (some .int) ∈ jG := jg_in (jch_7 (List.mem_of_getElem? (i := 37) rfl)) rfl
theorem jg_1037 : Cond.code yX9_way cX9_way 7 (some .int) ∈ jG := jg_in (jch_7 (List.mem_of_getElem? (i := 30) rfl)) rfl
theorem jg_1038 : Cond.code yX9_mayBe cX9_mayBe 5 (some .boolean) ∈ jG := jg_in (jch_7 (List.mem_of_getElem? (i := 49) rfl)) rfl
theorem jg_1039 : Cond.code yX9_coloured cX9_coloured 4 (some .boolean) ∈ jG := jg_in (jch_7 (List.mem_of_getElem? (i := 45) rfl)) rfl
theorem jg_1040 : Cond.code yX9_colour cX9_colour 3 (some .int) ∈ jG := jg_in (jch_7 (List.mem_of_getElem? (i := 41) rfl)) rfl
theorem jg_1041 : Cond.code yX9_bits cX9_bits 3 (some .int) ∈ jG := jg_in (jch_7 (List.mem_of_getElem? (i := 60) rfl)) rfl
theorem jg_1042 : Cond.code yX9_there cX9_there 3 (some .int) ∈ jG := jg_in (jch_7 (List.mem_of_getElem? (i := 57) rfl)) rfl
theorem jg_1043 : Cond.code yX9_apart cX9_apart 7 (some .int) ∈ jG := jg_in (jch_7 (List.mem_of_getElem? (i := 53) rfl)) rfl
theorem jg_1044 : Cond.code yX9_marked cX9_marked 6 (some .int) ∈ jG := jg_in (jch_7 (List.mem_of_getElem? (i := 64) rfl)) rfl
theorem jg_1045 : Cond.code yX9_began cX9_began 2 none ∈ jG := jg_in (jch_7 (List.mem_of_getElem? (i := 87) rfl)) rfl
theorem jg_1046 : Cond.code yX9_hasOwn cX9_hasOwn 2 (some .boolean) ∈ jG := jg_in (jch_7 (List.mem_of_getElem? (i := 79) rfl)) rfl
theorem jg_1047 : Cond.code yX9_voiced cX9_voiced 3 (some .int) ∈ jG := jg_in (jch_7 (List.mem_of_getElem? (i := 72) rfl)) rfl
theorem jg_1048 : Cond.code yX9_bodyFrom cX9_bodyFrom 5 (some .int) ∈ jG := jg_in (jch_7 (List.mem_of_getElem? (i := 76) rfl)) rfl
theorem jg_1049 : Cond.code yX9_body cX9_body 6 (some .int) ∈ jG := jg_in (jch_7 (List.mem_of_getElem? (i := 83) rfl)) rfl
theorem jg_1050 : Cond.code yX9_voice cX9_voice 5 (some .int) ∈ jG := jg_in (jch_7 (List.mem_of_getElem? (i := 68) rfl)) rfl
theorem jg_1051 : Cond.code yX9_body_ cX9_body_ 2 (some .int) ∈ jG := jg_in (jch_7 (List.mem_of_getElem? (i := 92) rfl)) rfl
theorem jg_1052 : Cond.code yX9_isSheet cX9_isSheet 1 (some .boolean) ∈ jG := jg_in (jch_7 (List.mem_of_getElem? (i := 99) rfl)) rfl
theorem jg_1053 : Cond.code yX9_sheet cX9_sheet 5 (some .int) ∈ jG := jg_in (jch_7 (List.mem_of_getElem? (i := 96) rfl)) rfl
theorem jg_1054 : Cond.code yX9_put cX9_put 4 (some .int) ∈ jG := jg_in (jch_7 (List.mem_of_getElem? (i := 103) rfl)) rfl
theorem jg_1055 : Cond.code yX9_move cX9_move 7 (some .int) ∈ jG := jg_in (jch_7 (List.mem_of_getElem? (i := 107) rfl)) rfl
theorem jg_1056 : Cond.code yX9_gases cX9_gases 5 (some .int) ∈ jG := jg_in (jch_7 (List.mem_of_getElem? (i := 111) rfl)) rfl
theorem jg_1057 : Cond.code yX9_image cX9_image 1 (some .int) ∈ jG := jg_in (jch_7 (List.mem_of_getElem? (i := 115) rfl)) rfl
theorem jg_1058 : Cond.code yX9_restore cX9_restore 1 (some .int) ∈ jG := jg_in (jch_7 (List.mem_of_getElem? (i := 119) rfl)) rfl
theorem jg_1059 : Cond.code yX9_tell cX9_tell 2 (some .int) ∈ jG := jg_in (jch_7 (List.mem_of_getElem? (i := 123) rfl)) rfl
theorem jg_1060 : Cond.code yX9_check cX9_check 5 (some .int) ∈ jG := jg_in (jch_7 (List.mem_of_getElem? (i := 127) rfl)) rfl
theorem jg_1061 : Cond.code yX9_count cX9_count 4 (some .int) ∈ jG := jg_in (jch_7 (List.mem_of_getElem? (i := 131) rfl)) rfl
theorem jg_1062 : Cond.code yX9_told cX9_told 2 (some .int) ∈ jG := jg_in (jch_7 (List.mem_of_getElem? (i := 135) rfl)) rfl
theorem jg_1063 : Cond.code yJ6_bitCount_0f7a4 cJ6_bitCount_0f7a4 1 (some .int) ∈ jG := jg_in (jch_2 (List.mem_of_getElem? (i := 102) rfl)) rfl
theorem jg_1064 : Cond.initialized RJ6 ∈ jG := jg_in (jch_1 (List.mem_of_getElem? (i := 11) rfl)) rfl
theorem jg_1065 : Cond.code yJ9_floorMod_7cf53 cJ9_floorMod_7cf53 3 (some .int) ∈ jG := jg_in (jch_2 (List.mem_of_getElem? (i := 128) rfl)) rfl
theorem jg_1066 : Cond.initialized RJ9 ∈ jG := jg_in (jch_1 (List.mem_of_getElem? (i := 12) rfl)) rfl
theorem jg_1067 : Cond.code yJ9_abs_0f7a4 cJ9_abs_0f7a4 1 (some .int) ∈ jG := jg_in (jch_4 (List.mem_of_getElem? (i := 39) rfl)) rfl
theorem jg_1068 : Cond.code yJ9_max_7cf53 cJ9_max_7cf53 2 (some .int) ∈ jG := jg_in (jch_3 (List.mem_of_getElem? (i := 54) rfl)) rfl
theorem jg_1069 : Cond.code yJ9_max_f86c9 cJ9_max_f86c9 4 (some .long) ∈ jG := jg_in (jch_4 (List.mem_of_getElem? (i := 20) rfl)) rfl
theorem jg_1070 : Cond.code yJ9_min_7cf53 cJ9_min_7cf53 2 (some .int) ∈ jG := jg_in (jch_3 (List.mem_of_getElem? (i := 51) rfl)) rfl
theorem jg_1071 : Cond.code yJ9_min_f86c9 cJ9_min_f86c9 4 (some .long) ∈ jG := jg_in (jch_4 (List.mem_of_getElem? (i := 17) rfl)) rfl
theorem jg_1072 : Cond.code yJ7_fill_53178 cJ7_fill_53178 4 none ∈ jG := jg_in (jch_2 (List.mem_of_getElem? (i := 85) rfl)) rfl
theorem jg_1073 : Cond.initialized RJ7 ∈ jG := jg_in (jch_1 (List.mem_of_getElem? (i := 10) rfl)) rfl
theorem jg_1074 : Cond.code yJ0_checkIndex_df160 cJ0_checkIndex_df160 2 none ∈ jG := jg_in (jch_6 (List.mem_of_getElem? (i := 157) rfl)) rfl
theorem jg_1075 : Cond.initialized RJ0 ∈ jG := jg_in (jch_1 (List.mem_of_getElem? (i := 15) rfl)) rfl
theorem jg_1076 : Cond.code yJ0_length_8abf5 cJ0_length_8abf5 1 (some .int) ∈ jG := jg_in (jch_3 (List.mem_of_getElem? (i := 143) rfl)) rfl
theorem jg_1077 : Cond.code yJ0_charAt_5068e cJ0_charAt_5068e 2 (some .char) ∈ jG := jg_in (jch_6 (List.mem_of_getElem? (i := 151) rfl)) rfl
theorem jg_1078 : Cond.code yJ0_indexOf_0f7a4 cJ0_indexOf_0f7a4 2 (some .int) ∈ jG := jg_in (jch_3 (List.mem_of_getElem? (i := 129) rfl)) rfl
theorem jg_1079 : Cond.code yJ0_indexOf_7cf53 cJ0_indexOf_7cf53 3 (some .int) ∈ jG := jg_in (jch_3 (List.mem_of_getElem? (i := 133) rfl)) rfl
theorem jg_1080 : Cond.code yJ0_coder_7d493 cJ0_coder_7d493 1 (some .byte) ∈ jG := jg_in (jch_3 (List.mem_of_getElem? (i := 147) rfl)) rfl
theorem jg_1081 : Cond.code yJ0_isLatin1_aae02 cJ0_isLatin1_aae02 1 (some .boolean) ∈ jG := jg_in (jch_3 (List.mem_of_getElem? (i := 137) rfl)) rfl
theorem jg_1082 : Cond.code yJ1_charAt_3b067 cJ1_charAt_3b067 2 (some .char) ∈ jG := jg_in (jch_6 (List.mem_of_getElem? (i := 154) rfl)) rfl
theorem jg_1083 : Cond.initialized RJ1 ∈ jG := jg_in (jch_1 (List.mem_of_getElem? (i := 16) rfl)) rfl
theorem jg_1084 : Cond.code yJ1_canEncode_9a6ad cJ1_canEncode_9a6ad 1 (some .boolean) ∈ jG := jg_in (jch_3 (List.mem_of_getElem? (i := 153) rfl)) rfl
theorem jg_1085 : Cond.code yJ1_indexOf_4cfef cJ1_indexOf_4cfef 4 (some .int) ∈ jG := jg_in (jch_3 (List.mem_of_getElem? (i := 150) rfl)) rfl
theorem jg_1086 : Cond.code yJ1_indexOfChar_4cfef cJ1_indexOfChar_4cfef 6 (some .int) ∈ jG := jg_in (jch_3 (List.mem_of_getElem? (i := 158) rfl)) rfl
theorem jg_1087 : Cond.code yJ3_checkIndex_8e157 cJ3_checkIndex_8e157 3 (some .int) ∈ jG := jg_in (jch_6 (List.mem_of_getElem? (i := 160) rfl)) rfl
theorem jg_1088 : Cond.initialized RJ3 ∈ jG := jg_in (jch_1 (List.mem_of_getElem? (i := 18) rfl)) rfl
theorem jg_1089 : Cond.lays RX0 "FoamHead$Foam" "alive" "I" ∈ jG := jg_in (jch_1 (List.mem_of_getElem? (i := 70) rfl)) rfl
theorem jg_1090 : Cond.laysFinal RX0 "FoamHead$Foam" "kind" "[I" ∈ jG := jg_in (jch_1 (List.mem_of_getElem? (i := 72) rfl)) rfl
theorem jg_1091 : Cond.laysFinal RX0 "FoamHead$Foam" "gas" "[I" ∈ jG := jg_in (jch_1 (List.mem_of_getElem? (i := 74) rfl)) rfl
theorem jg_1092 : Cond.laysFinal RX0 "FoamHead$Foam" "water" "[I" ∈ jG := jg_in (jch_1 (List.mem_of_getElem? (i := 76) rfl)) rfl
theorem jg_1093 : Cond.laysFinal RX0 "FoamHead$Foam" "row" "[I" ∈ jG := jg_in (jch_1 (List.mem_of_getElem? (i := 78) rfl)) rfl
theorem jg_1094 : Cond.laysFinal RX0 "FoamHead$Foam" "sides" "[I" ∈ jG := jg_in (jch_1 (List.mem_of_getElem? (i := 80) rfl)) rfl
theorem jg_1095 : Cond.lays RX0 "FoamHead$Foam" "turned" "I" ∈ jG := jg_in (jch_1 (List.mem_of_getElem? (i := 82) rfl)) rfl
theorem jg_1096 : Cond.lays RX0 "FoamHead$Foam" "vanished" "I" ∈ jG := jg_in (jch_1 (List.mem_of_getElem? (i := 84) rfl)) rfl
theorem jg_1097 : Cond.lays RX0 "FoamHead$Foam" "bursts" "I" ∈ jG := jg_in (jch_1 (List.mem_of_getElem? (i := 86) rfl)) rfl
theorem jg_1098 : Cond.laysFinal RX0 "FoamHead$Foam" "rings" "[[I" ∈ jG := jg_in (jch_1 (List.mem_of_getElem? (i := 88) rfl)) rfl
theorem jg_1099 : Cond.laysFinal RX0 "FoamHead$Foam" "joined" "[I" ∈ jG := jg_in (jch_1 (List.mem_of_getElem? (i := 90) rfl)) rfl
theorem jg_1100 : Cond.lays RX2 "FoamHead$Reader" "place" "I" ∈ jG := jg_in (jch_1 (List.mem_of_getElem? (i := 184) rfl)) rfl
theorem jg_1101 : Cond.lays RX2 "FoamHead$Reader" "codes" "I" ∈ jG := jg_in (jch_1 (List.mem_of_getElem? (i := 186) rfl)) rfl
theorem jg_1102 : Cond.laysFinal RX2 "FoamHead$Reader" "code" "[I" ∈ jG := jg_in (jch_1 (List.mem_of_getElem? (i := 188) rfl)) rfl
theorem jg_1103 : Cond.laysFinal RX2 "FoamHead$Reader" "bytes" "[I" ∈ jG := jg_in (jch_1 (List.mem_of_getElem? (i := 190) rfl)) rfl
theorem jg_1104 : Cond.lays RX2 "FoamHead$Reader" "size" "I" ∈ jG := jg_in (jch_1 (List.mem_of_getElem? (i := 192) rfl)) rfl
theorem jg_1105 : Cond.lays RX2 "FoamHead$Reader" "names" "Ljava/lang/String;" ∈ jG := jg_in (jch_1 (List.mem_of_getElem? (i := 194) rfl)) rfl
theorem jg_1106 : Cond.lays RX2 "FoamHead$Reader" "wrong" "Z" ∈ jG := jg_in (jch_1 (List.mem_of_getElem? (i := 196) rfl)) rfl
theorem jg_1107 : Cond.laysFinal RX3 "FoamHead$Search" "colours" "[I" ∈ jG := jg_in (jch_1 (List.mem_of_getElem? (i := 211) rfl)) rfl
theorem jg_1108 : Cond.laysFinal RX3 "FoamHead$Search" "beside" "[I" ∈ jG := jg_in (jch_1 (List.mem_of_getElem? (i := 213) rfl)) rfl
theorem jg_1109 : Cond.laysFinal RX3 "FoamHead$Search" "painted" "[I" ∈ jG := jg_in (jch_1 (List.mem_of_getElem? (i := 215) rfl)) rfl
theorem jg_1110 : Cond.lays RX3 "FoamHead$Search" "alive" "I" ∈ jG := jg_in (jch_1 (List.mem_of_getElem? (i := 217) rfl)) rfl
theorem jg_1111 : Cond.laysFinal RX4 "FoamHead$Sheets" "bits" "[I" ∈ jG := jg_in (jch_2 (List.mem_of_getElem? (i := 27) rfl)) rfl
theorem jg_1112 : Cond.laysFinal RX4 "FoamHead$Sheets" "size" "[I" ∈ jG := jg_in (jch_2 (List.mem_of_getElem? (i := 29) rfl)) rfl
theorem jg_1113 : Cond.laysFinal RX4 "FoamHead$Sheets" "numbers" "[[I" ∈ jG := jg_in (jch_2 (List.mem_of_getElem? (i := 31) rfl)) rfl
theorem jg_1114 : Cond.lays RX5 "FoamHead$Text" "size" "I" ∈ jG := jg_in (jch_1 (List.mem_of_getElem? (i := 105) rfl)) rfl
theorem jg_1115 : Cond.laysFinal RX5 "FoamHead$Text" "code" "[I" ∈ jG := jg_in (jch_1 (List.mem_of_getElem? (i := 107) rfl)) rfl
theorem jg_1116 : Cond.laysFinal RX5 "FoamHead$Text" "open" "[I" ∈ jG := jg_in (jch_1 (List.mem_of_getElem? (i := 109) rfl)) rfl
theorem jg_1117 : Cond.lays RX6 "FoamHead$Voices" "parted" "Z" ∈ jG := jg_in (jch_1 (List.mem_of_getElem? (i := 237) rfl)) rfl
theorem jg_1118 : Cond.lays RX6 "FoamHead$Voices" "traceSize" "I" ∈ jG := jg_in (jch_1 (List.mem_of_getElem? (i := 239) rfl)) rfl
theorem jg_1119 : Cond.laysFinal RX6 "FoamHead$Voices" "trace" "[I" ∈ jG := jg_in (jch_2 (List.mem_of_getElem? (i := 1) rfl)) rfl
theorem jg_1120 : Cond.laysFinal RX6 "FoamHead$Voices" "began" "[I" ∈ jG := jg_in (jch_2 (List.mem_of_getElem? (i := 3) rfl)) rfl
theorem jg_1121 : Cond.lays RX6 "FoamHead$Voices" "beganSize" "I" ∈ jG := jg_in (jch_2 (List.mem_of_getElem? (i := 5) rfl)) rfl
theorem jg_1122 : Cond.lays RX6 "FoamHead$Voices" "number" "I" ∈ jG := jg_in (jch_2 (List.mem_of_getElem? (i := 7) rfl)) rfl
theorem jg_1123 : Cond.lays RX6 "FoamHead$Voices" "row" "I" ∈ jG := jg_in (jch_2 (List.mem_of_getElem? (i := 9) rfl)) rfl
theorem jg_1124 : Cond.lays RX6 "FoamHead$Voices" "kind" "I" ∈ jG := jg_in (jch_2 (List.mem_of_getElem? (i := 11) rfl)) rfl
theorem jg_1125 : Cond.laysFinal RX7 "FoamHead$World" "foam" "LFoamHead$Foam;" ∈ jG := jg_in (jch_1 (List.mem_of_getElem? (i := 138) rfl)) rfl
theorem jg_1126 : Cond.laysFinal RX7 "FoamHead$World" "texts" "[LFoamHead$Text;" ∈ jG := jg_in (jch_1 (List.mem_of_getElem? (i := 140) rfl)) rfl
theorem jg_1127 : Cond.laysFinal RX7 "FoamHead$World" "tape" "[I" ∈ jG := jg_in (jch_1 (List.mem_of_getElem? (i := 142) rfl)) rfl
theorem jg_1128 : Cond.lays RX7 "FoamHead$World" "tapeSize" "I" ∈ jG := jg_in (jch_1 (List.mem_of_getElem? (i := 144) rfl)) rfl
theorem jg_1129 : Cond.laysFinal RX7 "FoamHead$World" "waiting" "[I" ∈ jG := jg_in (jch_1 (List.mem_of_getElem? (i := 146) rfl)) rfl
theorem jg_1130 : Cond.lays RX7 "FoamHead$World" "waitingSize" "I" ∈ jG := jg_in (jch_1 (List.mem_of_getElem? (i := 148) rfl)) rfl
theorem jg_1131 : Cond.lays RX7 "FoamHead$World" "rate" "I" ∈ jG := jg_in (jch_1 (List.mem_of_getElem? (i := 150) rfl)) rfl
theorem jg_1132 : Cond.lays RX7 "FoamHead$World" "dryness" "I" ∈ jG := jg_in (jch_1 (List.mem_of_getElem? (i := 152) rfl)) rfl
theorem jg_1133 : Cond.lays RX7 "FoamHead$World" "odds" "I" ∈ jG := jg_in (jch_1 (List.mem_of_getElem? (i := 154) rfl)) rfl
theorem jg_1134 : Cond.lays RX7 "FoamHead$World" "z" "I" ∈ jG := jg_in (jch_1 (List.mem_of_getElem? (i := 156) rfl)) rfl
theorem jg_1135 : Cond.lays RX7 "FoamHead$World" "ticks" "I" ∈ jG := jg_in (jch_1 (List.mem_of_getElem? (i := 158) rfl)) rfl
theorem jg_1136 : Cond.lays RX7 "FoamHead$World" "drained" "I" ∈ jG := jg_in (jch_1 (List.mem_of_getElem? (i := 160) rfl)) rfl
theorem jg_1137 : Cond.laysFinal RX7 "FoamHead$World" "names" "[I" ∈ jG := jg_in (jch_1 (List.mem_of_getElem? (i := 162) rfl)) rfl
theorem jg_1138 : Cond.laysFinal RX7 "FoamHead$World" "moved" "[I" ∈ jG := jg_in (jch_1 (List.mem_of_getElem? (i := 164) rfl)) rfl
theorem jg_1139 : Cond.laysFinal RX8 "FoamHead" "now" "LFoamHead$World;" ∈ jG := jg_in (jch_2 (List.mem_of_getElem? (i := 43) rfl)) rfl
theorem jg_1140 : Cond.laysFinal RX8 "FoamHead" "kept" "LFoamHead$World;" ∈ jG := jg_in (jch_2 (List.mem_of_getElem? (i := 45) rfl)) rfl
theorem jg_1141 : Cond.laysFinal RX8 "FoamHead" "spare" "LFoamHead$World;" ∈ jG := jg_in (jch_2 (List.mem_of_getElem? (i := 47) rfl)) rfl
theorem jg_1142 : Cond.laysFinal RX8 "FoamHead" "reader" "LFoamHead$Reader;" ∈ jG := jg_in (jch_2 (List.mem_of_getElem? (i := 49) rfl)) rfl
theorem jg_1143 : Cond.laysFinal RX8 "FoamHead" "search" "LFoamHead$Search;" ∈ jG := jg_in (jch_2 (List.mem_of_getElem? (i := 51) rfl)) rfl
theorem jg_1144 : Cond.laysFinal RX8 "FoamHead" "voices" "LFoamHead$Voices;" ∈ jG := jg_in (jch_2 (List.mem_of_getElem? (i := 53) rfl)) rfl
theorem jg_1145 : Cond.laysFinal RX8 "FoamHead" "sheets" "LFoamHead$Sheets;" ∈ jG := jg_in (jch_2 (List.mem_of_getElem? (i := 55) rfl)) rfl
theorem jg_1146 : Cond.laysFinal RX8 "FoamHead" "errors" "[I" ∈ jG := jg_in (jch_2 (List.mem_of_getElem? (i := 57) rfl)) rfl
theorem jg_1147 : Cond.lays RX8 "FoamHead" "images" "I" ∈ jG := jg_in (jch_2 (List.mem_of_getElem? (i := 59) rfl)) rfl
theorem jg_1148 : Cond.laysFinal RX9 "FoamHeadModel" "now" "[I" ∈ jG := jg_in (jch_5 (List.mem_of_getElem? (i := 96) rfl)) rfl
theorem jg_1149 : Cond.laysFinal RX9 "FoamHeadModel" "kept" "[I" ∈ jG := jg_in (jch_5 (List.mem_of_getElem? (i := 98) rfl)) rfl
theorem jg_1150 : Cond.laysFinal RX9 "FoamHeadModel" "aside" "[I" ∈ jG := jg_in (jch_5 (List.mem_of_getElem? (i := 100) rfl)) rfl
theorem jg_1151 : Cond.lays RX9 "FoamHeadModel" "images" "I" ∈ jG := jg_in (jch_5 (List.mem_of_getElem? (i := 102) rfl)) rfl
theorem jg_1152 : Cond.laysFinal RX9 "FoamHeadModel" "errors" "[I" ∈ jG := jg_in (jch_5 (List.mem_of_getElem? (i := 104) rfl)) rfl
theorem jg_1153 : Cond.laysFinal RX9 "FoamHeadModel" "sewn" "[I" ∈ jG := jg_in (jch_5 (List.mem_of_getElem? (i := 106) rfl)) rfl
theorem jg_1154 : Cond.laysFinal RX9 "FoamHeadModel" "NAMED" "[Ljava/lang/String;" ∈ jG := jg_in (jch_5 (List.mem_of_getElem? (i := 108) rfl)) rfl
theorem jg_1155 : Cond.lays RX9 "FoamHeadModel" "at" "I" ∈ jG := jg_in (jch_5 (List.mem_of_getElem? (i := 110) rfl)) rfl
theorem jg_1156 : Cond.lays RX9 "FoamHeadModel" "open" "I" ∈ jG := jg_in (jch_5 (List.mem_of_getElem? (i := 112) rfl)) rfl
theorem jg_1157 : Cond.lays RX9 "FoamHeadModel" "use" "I" ∈ jG := jg_in (jch_5 (List.mem_of_getElem? (i := 114) rfl)) rfl
theorem jg_1158 : Cond.lays RX9 "FoamHeadModel" "isWrong" "Z" ∈ jG := jg_in (jch_5 (List.mem_of_getElem? (i := 116) rfl)) rfl
theorem jg_1159 : Cond.laysFinal RX9 "FoamHeadModel" "code" "[I" ∈ jG := jg_in (jch_5 (List.mem_of_getElem? (i := 118) rfl)) rfl
theorem jg_1160 : Cond.lays RX9 "FoamHeadModel" "coded" "I" ∈ jG := jg_in (jch_5 (List.mem_of_getElem? (i := 120) rfl)) rfl
theorem jg_1161 : Cond.laysFinal RX9 "FoamHeadModel" "named" "[I" ∈ jG := jg_in (jch_5 (List.mem_of_getElem? (i := 122) rfl)) rfl
theorem jg_1162 : Cond.laysFinal RX9 "FoamHeadModel" "pile" "[I" ∈ jG := jg_in (jch_5 (List.mem_of_getElem? (i := 124) rfl)) rfl
theorem jg_1163 : Cond.laysFinal RX9 "FoamHeadModel" "water" "[I" ∈ jG := jg_in (jch_5 (List.mem_of_getElem? (i := 126) rfl)) rfl
theorem jg_1164 : Cond.laysFinal RX9 "FoamHeadModel" "colours" "[I" ∈ jG := jg_in (jch_5 (List.mem_of_getElem? (i := 128) rfl)) rfl
theorem jg_1165 : Cond.laysFinal RX9 "FoamHeadModel" "touched" "[I" ∈ jG := jg_in (jch_5 (List.mem_of_getElem? (i := 130) rfl)) rfl
theorem jg_1166 : Cond.laysFinal RX9 "FoamHeadModel" "trace" "[I" ∈ jG := jg_in (jch_5 (List.mem_of_getElem? (i := 132) rfl)) rfl
theorem jg_1167 : Cond.lays RX9 "FoamHeadModel" "traced" "I" ∈ jG := jg_in (jch_5 (List.mem_of_getElem? (i := 134) rfl)) rfl
theorem jg_1168 : Cond.lays RX9 "FoamHeadModel" "speaker" "I" ∈ jG := jg_in (jch_5 (List.mem_of_getElem? (i := 136) rfl)) rfl
theorem jg_1169 : Cond.lays RX9 "FoamHeadModel" "isParted" "Z" ∈ jG := jg_in (jch_5 (List.mem_of_getElem? (i := 138) rfl)) rfl
theorem jg_1170 : Cond.laysFinal RX9 "FoamHeadModel" "widths" "[I" ∈ jG := jg_in (jch_5 (List.mem_of_getElem? (i := 140) rfl)) rfl
theorem jg_1171 : Cond.laysFinal RX9 "FoamHeadModel" "sizes" "[I" ∈ jG := jg_in (jch_5 (List.mem_of_getElem? (i := 142) rfl)) rfl
theorem jg_1172 : Cond.laysFinal RX9 "FoamHeadModel" "numbers" "[I" ∈ jG := jg_in (jch_5 (List.mem_of_getElem? (i := 144) rfl)) rfl
theorem jg_1173 : Cond.laysFinal RX9 "FoamHeadModel" "carried" "[I" ∈ jG := jg_in (jch_5 (List.mem_of_getElem? (i := 146) rfl)) rfl
theorem jg_1174 : Cond.selects RX8 yX8_all yX8_all ∈ jG := jg_in (jch_4 (List.mem_of_getElem? (i := 126) rfl)) rfl
theorem jg_1175 : Cond.selects RX8 yX8_apart yX8_apart ∈ jG := jg_in (jch_4 (List.mem_of_getElem? (i := 185) rfl)) rfl
theorem jg_1176 : Cond.selects RX8 yX8_around yX8_around ∈ jG := jg_in (jch_4 (List.mem_of_getElem? (i := 142) rfl)) rfl
theorem jg_1177 : Cond.selects RX8 yX8_as yX8_as ∈ jG := jg_in (jch_2 (List.mem_of_getElem? (i := 167) rfl)) rfl
theorem jg_1178 : Cond.selects RX8 yX8_become yX8_become ∈ jG := jg_in (jch_2 (List.mem_of_getElem? (i := 183) rfl)) rfl
theorem jg_1179 : Cond.selects RX8 yX8_beside yX8_beside ∈ jG := jg_in (jch_2 (List.mem_of_getElem? (i := 199) rfl)) rfl
theorem jg_1180 : Cond.selects RX8 yX8_body yX8_body ∈ jG := jg_in (jch_4 (List.mem_of_getElem? (i := 234) rfl)) rfl
theorem jg_1181 : Cond.selects RX8 yX8_bubbleIs yX8_bubbleIs ∈ jG := jg_in (jch_2 (List.mem_of_getElem? (i := 108) rfl)) rfl
theorem jg_1182 : Cond.selects RX8 yX8_burst yX8_burst ∈ jG := jg_in (jch_3 (List.mem_of_getElem? (i := 43) rfl)) rfl
theorem jg_1183 : Cond.selects RX8 yX8_can yX8_can ∈ jG := jg_in (jch_2 (List.mem_of_getElem? (i := 228) rfl)) rfl
theorem jg_1184 : Cond.selects RX8 yX8_check yX8_check ∈ jG := jg_in (jch_5 (List.mem_of_getElem? (i := 44) rfl)) rfl
theorem jg_1185 : Cond.selects RX8 yX8_colour yX8_colour ∈ jG := jg_in (jch_4 (List.mem_of_getElem? (i := 171) rfl)) rfl
theorem jg_1186 : Cond.selects RX8 yX8_count yX8_count ∈ jG := jg_in (jch_5 (List.mem_of_getElem? (i := 48) rfl)) rfl
theorem jg_1187 : Cond.selects RX8 yX8_end yX8_end ∈ jG := jg_in (jch_2 (List.mem_of_getElem? (i := 216) rfl)) rfl
theorem jg_1188 : Cond.selects RX8 yX8_feed yX8_feed ∈ jG := jg_in (jch_3 (List.mem_of_getElem? (i := 70) rfl)) rfl
theorem jg_1189 : Cond.selects RX8 yX8_fill yX8_fill ∈ jG := jg_in (jch_2 (List.mem_of_getElem? (i := 187) rfl)) rfl
theorem jg_1190 : Cond.selects RX8 yX8_first yX8_first ∈ jG := jg_in (jch_4 (List.mem_of_getElem? (i := 150) rfl)) rfl
theorem jg_1191 : Cond.selects RX8 yX8_foam yX8_foam ∈ jG := jg_in (jch_2 (List.mem_of_getElem? (i := 64) rfl)) rfl
theorem jg_1192 : Cond.selects RX8 yX8_gases yX8_gases ∈ jG := jg_in (jch_5 (List.mem_of_getElem? (i := 28) rfl)) rfl
theorem jg_1193 : Cond.selects RX8 yX8_image yX8_image ∈ jG := jg_in (jch_5 (List.mem_of_getElem? (i := 32) rfl)) rfl
theorem jg_1194 : Cond.selects RX8 yX8_marked yX8_marked ∈ jG := jg_in (jch_4 (List.mem_of_getElem? (i := 198) rfl)) rfl
theorem jg_1195 : Cond.selects RX8 yX8_move yX8_move ∈ jG := jg_in (jch_5 (List.mem_of_getElem? (i := 19) rfl)) rfl
theorem jg_1196 : Cond.selects RX8 yX8_pace yX8_pace ∈ jG := jg_in (jch_4 (List.mem_of_getElem? (i := 134) rfl)) rfl
theorem jg_1197 : Cond.selects RX8 yX8_passes yX8_passes ∈ jG := jg_in (jch_4 (List.mem_of_getElem? (i := 3) rfl)) rfl
theorem jg_1198 : Cond.selects RX8 yX8_put yX8_put ∈ jG := jg_in (jch_5 (List.mem_of_getElem? (i := 11) rfl)) rfl
theorem jg_1199 : Cond.selects RX8 yX8_restore yX8_restore ∈ jG := jg_in (jch_5 (List.mem_of_getElem? (i := 36) rfl)) rfl
theorem jg_1200 : Cond.selects RX8 yX8_ring yX8_ring ∈ jG := jg_in (jch_2 (List.mem_of_getElem? (i := 191) rfl)) rfl
theorem jg_1201 : Cond.selects RX8 yX8_rule yX8_rule ∈ jG := jg_in (jch_3 (List.mem_of_getElem? (i := 239) rfl)) rfl
theorem jg_1202 : Cond.selects RX8 yX8_seed yX8_seed ∈ jG := jg_in (jch_4 (List.mem_of_getElem? (i := 122) rfl)) rfl
theorem jg_1203 : Cond.selects RX8 yX8_sheet yX8_sheet ∈ jG := jg_in (jch_4 (List.mem_of_getElem? (i := 238) rfl)) rfl
theorem jg_1204 : Cond.selects RX8 yX8_sides yX8_sides ∈ jG := jg_in (jch_4 (List.mem_of_getElem? (i := 138) rfl)) rfl
theorem jg_1205 : Cond.selects RX8 yX8_stands yX8_stands ∈ jG := jg_in (jch_4 (List.mem_of_getElem? (i := 104) rfl)) rfl
theorem jg_1206 : Cond.selects RX8 yX8_tell yX8_tell ∈ jG := jg_in (jch_5 (List.mem_of_getElem? (i := 40) rfl)) rfl
theorem jg_1207 : Cond.selects RX8 yX8_text yX8_text ∈ jG := jg_in (jch_3 (List.mem_of_getElem? (i := 79) rfl)) rfl
theorem jg_1208 : Cond.selects RX8 yX8_tick yX8_tick ∈ jG := jg_in (jch_4 (List.mem_of_getElem? (i := 25) rfl)) rfl
theorem jg_1209 : Cond.selects RX8 yX8_told yX8_told ∈ jG := jg_in (jch_5 (List.mem_of_getElem? (i := 57) rfl)) rfl
theorem jg_1210 : Cond.selects RX8 yX8_turn yX8_turn ∈ jG := jg_in (jch_3 (List.mem_of_getElem? (i := 15) rfl)) rfl
theorem jg_1211 : Cond.selects RX8 yX8_untell yX8_untell ∈ jG := jg_in (jch_3 (List.mem_of_getElem? (i := 234) rfl)) rfl
theorem jg_1212 : Cond.selects RX8 yX8_vanish yX8_vanish ∈ jG := jg_in (jch_3 (List.mem_of_getElem? (i := 31) rfl)) rfl
theorem jg_1213 : Cond.selects RX8 yX8_voice yX8_voice ∈ jG := jg_in (jch_4 (List.mem_of_getElem? (i := 202) rfl)) rfl
theorem jg_1214 : Cond.selects RX8 yX8_way yX8_way ∈ jG := jg_in (jch_4 (List.mem_of_getElem? (i := 154) rfl)) rfl
theorem jg_1215 : Cond.selects RX0 yX0_aheadOf yX0_aheadOf ∈ jG := jg_in (jch_2 (List.mem_of_getElem? (i := 220) rfl)) rfl
theorem jg_1216 : Cond.selects RX0 yX0_at yX0_at ∈ jG := jg_in (jch_2 (List.mem_of_getElem? (i := 124) rfl)) rfl
theorem jg_1217 : Cond.selects RX0 yX0_behind yX0_behind ∈ jG := jg_in (jch_2 (List.mem_of_getElem? (i := 224) rfl)) rfl
theorem jg_1218 : Cond.selects RX0 yX0_bitsBeside yX0_bitsBeside ∈ jG := jg_in (jch_4 (List.mem_of_getElem? (i := 62) rfl)) rfl
theorem jg_1219 : Cond.selects RX0 yX0_canBurst yX0_canBurst ∈ jG := jg_in (jch_3 (List.mem_of_getElem? (i := 3) rfl)) rfl
theorem jg_1220 : Cond.selects RX0 yX0_canTurn yX0_canTurn ∈ jG := jg_in (jch_2 (List.mem_of_getElem? (i := 232) rfl)) rfl
theorem jg_1221 : Cond.selects RX0 yX0_canVanish yX0_canVanish ∈ jG := jg_in (jch_3 (List.mem_of_getElem? (i := 11) rfl)) rfl
theorem jg_1222 : Cond.selects RX0 yX0_copyFrom yX0_copyFrom ∈ jG := jg_in (jch_4 (List.mem_of_getElem? (i := 112) rfl)) rfl
theorem jg_1223 : Cond.selects RX0 yX0_glasses yX0_glasses ∈ jG := jg_in (jch_2 (List.mem_of_getElem? (i := 116) rfl)) rfl
theorem jg_1224 : Cond.selects RX0 yX0_has yX0_has ∈ jG := jg_in (jch_2 (List.mem_of_getElem? (i := 112) rfl)) rfl
theorem jg_1225 : Cond.selects RX0 yX0_howMany yX0_howMany ∈ jG := jg_in (jch_2 (List.mem_of_getElem? (i := 98) rfl)) rfl
theorem jg_1226 : Cond.selects RX0 yX0_isWall yX0_isWall ∈ jG := jg_in (jch_2 (List.mem_of_getElem? (i := 207) rfl)) rfl
theorem jg_1227 : Cond.selects RX0 yX0_lose yX0_lose ∈ jG := jg_in (jch_3 (List.mem_of_getElem? (i := 35) rfl)) rfl
theorem jg_1228 : Cond.selects RX0 yX0_make yX0_make ∈ jG := jg_in (jch_2 (List.mem_of_getElem? (i := 81) rfl)) rfl
theorem jg_1229 : Cond.selects RX0 yX0_placeOf yX0_placeOf ∈ jG := jg_in (jch_2 (List.mem_of_getElem? (i := 212) rfl)) rfl
theorem jg_1230 : Cond.selects RX0 yX0_sidesBeside yX0_sidesBeside ∈ jG := jg_in (jch_4 (List.mem_of_getElem? (i := 146) rfl)) rfl
theorem jg_1231 : Cond.selects RX0 yX0_sidesOf yX0_sidesOf ∈ jG := jg_in (jch_2 (List.mem_of_getElem? (i := 120) rfl)) rfl
theorem jg_1232 : Cond.selects RX0 yX0_together yX0_together ∈ jG := jg_in (jch_4 (List.mem_of_getElem? (i := 130) rfl)) rfl
theorem jg_1233 : Cond.selects RX0 yX0_toldAt yX0_toldAt ∈ jG := jg_in (jch_2 (List.mem_of_getElem? (i := 195) rfl)) rfl
theorem jg_1234 : Cond.selects RX0 yX0_turnOver yX0_turnOver ∈ jG := jg_in (jch_3 (List.mem_of_getElem? (i := 19) rfl)) rfl
theorem jg_1235 : Cond.selects RX0 yX0_unite yX0_unite ∈ jG := jg_in (jch_3 (List.mem_of_getElem? (i := 47) rfl)) rfl
theorem jg_1236 : Cond.selects RX0 yX0_walls yX0_walls ∈ jG := jg_in (jch_5 (List.mem_of_getElem? (i := 52) rfl)) rfl
theorem jg_1237 : Cond.selects RX2 yX2_read yX2_read ∈ jG := jg_in (jch_3 (List.mem_of_getElem? (i := 83) rfl)) rfl
theorem jg_1238 : Cond.selects RX3 yX3_canPaint yX3_canPaint ∈ jG := jg_in (jch_4 (List.mem_of_getElem? (i := 175) rfl)) rfl
theorem jg_1239 : Cond.selects RX3 yX3_look yX3_look ∈ jG := jg_in (jch_4 (List.mem_of_getElem? (i := 158) rfl)) rfl
theorem jg_1240 : Cond.selects RX3 yX3_mostApart yX3_mostApart ∈ jG := jg_in (jch_4 (List.mem_of_getElem? (i := 189) rfl)) rfl
theorem jg_1241 : Cond.selects RX3 yX3_wallsBetween yX3_wallsBetween ∈ jG := jg_in (jch_4 (List.mem_of_getElem? (i := 163) rfl)) rfl
theorem jg_1242 : Cond.selects RX4 yX4_haveRun yX4_haveRun ∈ jG := jg_in (jch_5 (List.mem_of_getElem? (i := 23) rfl)) rfl
theorem jg_1243 : Cond.selects RX4 yX4_lay yX4_lay ∈ jG := jg_in (jch_5 (List.mem_of_getElem? (i := 5) rfl)) rfl
theorem jg_1244 : Cond.selects RX4 yX4_set yX4_set ∈ jG := jg_in (jch_5 (List.mem_of_getElem? (i := 15) rfl)) rfl
theorem jg_1245 : Cond.selects RX5 yX5_copyFrom yX5_copyFrom ∈ jG := jg_in (jch_4 (List.mem_of_getElem? (i := 116) rfl)) rfl
theorem jg_1246 : Cond.selects RX5 yX5_isTold yX5_isTold ∈ jG := jg_in (jch_2 (List.mem_of_getElem? (i := 146) rfl)) rfl
theorem jg_1247 : Cond.selects RX5 yX5_take yX5_take ∈ jG := jg_in (jch_3 (List.mem_of_getElem? (i := 229) rfl)) rfl
theorem jg_1248 : Cond.selects RX5 yX5_value yX5_value ∈ jG := jg_in (jch_2 (List.mem_of_getElem? (i := 154) rfl)) rfl
theorem jg_1249 : Cond.selects RX6 yX6_answer yX6_answer ∈ jG := jg_in (jch_4 (List.mem_of_getElem? (i := 206) rfl)) rfl
theorem jg_1250 : Cond.selects RX6 yX6_keepTrace yX6_keepTrace ∈ jG := jg_in (jch_4 (List.mem_of_getElem? (i := 229) rfl)) rfl
theorem jg_1251 : Cond.selects RX7 yX7_copyFrom yX7_copyFrom ∈ jG := jg_in (jch_4 (List.mem_of_getElem? (i := 108) rfl)) rfl
theorem jg_1252 : Cond.selects RX7 yX7_dry yX7_dry ∈ jG := jg_in (jch_2 (List.mem_of_getElem? (i := 131) rfl)) rfl
theorem jg_1253 : Cond.selects RX7 yX7_goOn yX7_goOn ∈ jG := jg_in (jch_4 (List.mem_of_getElem? (i := 29) rfl)) rfl
theorem jg_1254 : Cond.selects RX7 yX7_mark yX7_mark ∈ jG := jg_in (jch_2 (List.mem_of_getElem? (i := 142) rfl)) rfl
theorem jg_1255 : Cond.selects RX7 yX7_passing yX7_passing ∈ jG := jg_in (jch_4 (List.mem_of_getElem? (i := 7) rfl)) rfl
theorem jg_1256 : Cond.selects RX7 yX7_startAnew yX7_startAnew ∈ jG := jg_in (jch_2 (List.mem_of_getElem? (i := 77) rfl)) rfl
theorem jg_1257 : Cond.selects RX7 yX7_takeBytes yX7_takeBytes ∈ jG := jg_in (jch_3 (List.mem_of_getElem? (i := 74) rfl)) rfl
theorem jg_1258 : Cond.selects RX9 yX9_all yX9_all ∈ jG := jg_in (jch_7 (List.mem_of_getElem? (i := 9) rfl)) rfl
theorem jg_1259 : Cond.selects RX9 yX9_apart yX9_apart ∈ jG := jg_in (jch_7 (List.mem_of_getElem? (i := 52) rfl)) rfl
theorem jg_1260 : Cond.selects RX9 yX9_around yX9_around ∈ jG := jg_in (jch_7 (List.mem_of_getElem? (i := 21) rfl)) rfl
theorem jg_1261 : Cond.selects RX9 yX9_as yX9_as ∈ jG := jg_in (jch_5 (List.mem_of_getElem? (i := 223) rfl)) rfl
theorem jg_1262 : Cond.selects RX9 yX9_become yX9_become ∈ jG := jg_in (jch_5 (List.mem_of_getElem? (i := 231) rfl)) rfl
theorem jg_1263 : Cond.selects RX9 yX9_beside yX9_beside ∈ jG := jg_in (jch_6 (List.mem_of_getElem? (i := 16) rfl)) rfl
theorem jg_1264 : Cond.selects RX9 yX9_body_ yX9_body_ ∈ jG := jg_in (jch_7 (List.mem_of_getElem? (i := 91) rfl)) rfl
theorem jg_1265 : Cond.selects RX9 yX9_bubbleIs yX9_bubbleIs ∈ jG := jg_in (jch_5 (List.mem_of_getElem? (i := 184) rfl)) rfl
theorem jg_1266 : Cond.selects RX9 yX9_burst yX9_burst ∈ jG := jg_in (jch_6 (List.mem_of_getElem? (i := 89) rfl)) rfl
theorem jg_1267 : Cond.selects RX9 yX9_can yX9_can ∈ jG := jg_in (jch_6 (List.mem_of_getElem? (i := 45) rfl)) rfl
theorem jg_1268 : Cond.selects RX9 yX9_check yX9_check ∈ jG := jg_in (jch_7 (List.mem_of_getElem? (i := 126) rfl)) rfl
theorem jg_1269 : Cond.selects RX9 yX9_colour yX9_colour ∈ jG := jg_in (jch_7 (List.mem_of_getElem? (i := 40) rfl)) rfl
theorem jg_1270 : Cond.selects RX9 yX9_count yX9_count ∈ jG := jg_in (jch_7 (List.mem_of_getElem? (i := 130) rfl)) rfl
theorem jg_1271 : Cond.selects RX9 yX9_end yX9_end ∈ jG := jg_in (jch_6 (List.mem_of_getElem? (i := 32) rfl)) rfl
theorem jg_1272 : Cond.selects RX9 yX9_feed yX9_feed ∈ jG := jg_in (jch_6 (List.mem_of_getElem? (i := 99) rfl)) rfl
theorem jg_1273 : Cond.selects RX9 yX9_fill yX9_fill ∈ jG := jg_in (jch_5 (List.mem_of_getElem? (i := 239) rfl)) rfl
theorem jg_1274 : Cond.selects RX9 yX9_first yX9_first ∈ jG := jg_in (jch_7 (List.mem_of_getElem? (i := 25) rfl)) rfl
theorem jg_1275 : Cond.selects RX9 yX9_foam yX9_foam ∈ jG := jg_in (jch_5 (List.mem_of_getElem? (i := 151) rfl)) rfl
theorem jg_1276 : Cond.selects RX9 yX9_gases yX9_gases ∈ jG := jg_in (jch_7 (List.mem_of_getElem? (i := 110) rfl)) rfl
theorem jg_1277 : Cond.selects RX9 yX9_image yX9_image ∈ jG := jg_in (jch_7 (List.mem_of_getElem? (i := 114) rfl)) rfl
theorem jg_1278 : Cond.selects RX9 yX9_marked yX9_marked ∈ jG := jg_in (jch_7 (List.mem_of_getElem? (i := 63) rfl)) rfl
theorem jg_1279 : Cond.selects RX9 yX9_move yX9_move ∈ jG := jg_in (jch_7 (List.mem_of_getElem? (i := 106) rfl)) rfl
theorem jg_1280 : Cond.selects RX9 yX9_pace yX9_pace ∈ jG := jg_in (jch_7 (List.mem_of_getElem? (i := 13) rfl)) rfl
theorem jg_1281 : Cond.selects RX9 yX9_passes yX9_passes ∈ jG := jg_in (jch_6 (List.mem_of_getElem? (i := 178) rfl)) rfl
theorem jg_1282 : Cond.selects RX9 yX9_put yX9_put ∈ jG := jg_in (jch_7 (List.mem_of_getElem? (i := 102) rfl)) rfl
theorem jg_1283 : Cond.selects RX9 yX9_restore yX9_restore ∈ jG := jg_in (jch_7 (List.mem_of_getElem? (i := 118) rfl)) rfl
theorem jg_1284 : Cond.selects RX9 yX9_ring yX9_ring ∈ jG := jg_in (jch_6 (List.mem_of_getElem? (i := 3) rfl)) rfl
theorem jg_1285 : Cond.selects RX9 yX9_rule yX9_rule ∈ jG := jg_in (jch_6 (List.mem_of_getElem? (i := 174) rfl)) rfl
theorem jg_1286 : Cond.selects RX9 yX9_seed yX9_seed ∈ jG := jg_in (jch_7 (List.mem_of_getElem? (i := 5) rfl)) rfl
theorem jg_1287 : Cond.selects RX9 yX9_sheet yX9_sheet ∈ jG := jg_in (jch_7 (List.mem_of_getElem? (i := 95) rfl)) rfl
theorem jg_1288 : Cond.selects RX9 yX9_sides yX9_sides ∈ jG := jg_in (jch_7 (List.mem_of_getElem? (i := 17) rfl)) rfl
theorem jg_1289 : Cond.selects RX9 yX9_stands yX9_stands ∈ jG := jg_in (jch_6 (List.mem_of_getElem? (i := 238) rfl)) rfl
theorem jg_1290 : Cond.selects RX9 yX9_tell yX9_tell ∈ jG := jg_in (jch_7 (List.mem_of_getElem? (i := 122) rfl)) rfl
theorem jg_1291 : Cond.selects RX9 yX9_text yX9_text ∈ jG := jg_in (jch_6 (List.mem_of_getElem? (i := 105) rfl)) rfl
theorem jg_1292 : Cond.selects RX9 yX9_tick yX9_tick ∈ jG := jg_in (jch_6 (List.mem_of_getElem? (i := 191) rfl)) rfl
theorem jg_1293 : Cond.selects RX9 yX9_told yX9_told ∈ jG := jg_in (jch_7 (List.mem_of_getElem? (i := 134) rfl)) rfl
theorem jg_1294 : Cond.selects RX9 yX9_turn yX9_turn ∈ jG := jg_in (jch_6 (List.mem_of_getElem? (i := 61) rfl)) rfl
theorem jg_1295 : Cond.selects RX9 yX9_untell yX9_untell ∈ jG := jg_in (jch_6 (List.mem_of_getElem? (i := 170) rfl)) rfl
theorem jg_1296 : Cond.selects RX9 yX9_vanish yX9_vanish ∈ jG := jg_in (jch_6 (List.mem_of_getElem? (i := 77) rfl)) rfl
theorem jg_1297 : Cond.selects RX9 yX9_voice yX9_voice ∈ jG := jg_in (jch_7 (List.mem_of_getElem? (i := 67) rfl)) rfl
theorem jg_1298 : Cond.selects RX9 yX9_way yX9_way ∈ jG := jg_in (jch_7 (List.mem_of_getElem? (i := 29) rfl)) rfl
theorem jg_1299 : Cond.selects RJ0 yJ0_charAt_5068e yJ0_charAt_5068e ∈ jG := jg_in (jch_6 (List.mem_of_getElem? (i := 150) rfl)) rfl
theorem jg_1300 : Cond.selects RJ0 yJ0_coder_7d493 yJ0_coder_7d493 ∈ jG := jg_in (jch_3 (List.mem_of_getElem? (i := 146) rfl)) rfl
theorem jg_1301 : Cond.selects RJ0 yJ0_indexOf_0f7a4 yJ0_indexOf_0f7a4 ∈ jG := jg_in (jch_3 (List.mem_of_getElem? (i := 128) rfl)) rfl
theorem jg_1302 : Cond.selects RJ0 yJ0_indexOf_7cf53 yJ0_indexOf_7cf53 ∈ jG := jg_in (jch_3 (List.mem_of_getElem? (i := 132) rfl)) rfl
theorem jg_1303 : Cond.selects RJ0 yJ0_isLatin1_aae02 yJ0_isLatin1_aae02 ∈ jG := jg_in (jch_3 (List.mem_of_getElem? (i := 136) rfl)) rfl
theorem jg_1304 : Cond.selects RJ0 yJ0_length_8abf5 yJ0_length_8abf5 ∈ jG := jg_in (jch_3 (List.mem_of_getElem? (i := 142) rfl)) rfl
theorem ju_0 : ∀ w ∈ u_ws RX0 TX0 11, w ∈ jG := show ∀ w ∈ [u_lay RX0 TX0 0, u_lay RX0 TX0 1, u_lay RX0 TX0 2, u_lay RX0 TX0 3, u_lay RX0 TX0 4, u_lay RX0 TX0 5, u_lay RX0 TX0 6, u_lay RX0 TX0 7, u_lay RX0 TX0 8, u_lay RX0 TX0 9, u_lay RX0 TX0 10], w ∈ jG from (List.forall_mem_cons.mpr ⟨jg_1089, (List.forall_mem_cons.mpr ⟨jg_1090, (List.forall_mem_cons.mpr ⟨jg_1091, (List.forall_mem_cons.mpr ⟨jg_1092, (List.forall_mem_cons.mpr ⟨jg_1093, (List.forall_mem_cons.mpr ⟨jg_1094, (List.forall_mem_cons.mpr ⟨jg_1095, (List.forall_mem_cons.mpr ⟨jg_1096, (List.forall_mem_cons.mpr ⟨jg_1097, (List.forall_mem_cons.mpr ⟨jg_1098, (List.forall_mem_cons.mpr ⟨jg_1099, (fun _ h => absurd h List.not_mem_nil)⟩)⟩)⟩)⟩)⟩)⟩)⟩)⟩)⟩)⟩)⟩)
theorem jnw_0 : ∀ j, j < 11 → defaultValue (tyX0 j) = vp_V (jdf 0) j := by decide +kernel
theorem ju_1 : ∀ w ∈ u_ws RX2 TX2 7, w ∈ jG := show ∀ w ∈ [u_lay RX2 TX2 0, u_lay RX2 TX2 1, u_lay RX2 TX2 2, u_lay RX2 TX2 3, u_lay RX2 TX2 4, u_lay RX2 TX2 5, u_lay RX2 TX2 6], w ∈ jG from (List.forall_mem_cons.mpr ⟨jg_1100, (List.forall_mem_cons.mpr ⟨jg_1101, (List.forall_mem_cons.mpr ⟨jg_1102, (List.forall_mem_cons.mpr ⟨jg_1103, (List.forall_mem_cons.mpr ⟨jg_1104, (List.forall_mem_cons.mpr ⟨jg_1105, (List.forall_mem_cons.mpr ⟨jg_1106, (fun _ h => absurd h List.not_mem_nil)⟩)⟩)⟩)⟩)⟩)⟩)⟩)
theorem jnw_1 : ∀ j, j < 7 → defaultValue (tyX2 j) = vp_V (jdf 1) j := by decide +kernel
theorem ju_2 : ∀ w ∈ u_ws RX3 TX3 4, w ∈ jG := show ∀ w ∈ [u_lay RX3 TX3 0, u_lay RX3 TX3 1, u_lay RX3 TX3 2, u_lay RX3 TX3 3], w ∈ jG from (List.forall_mem_cons.mpr ⟨jg_1107, (List.forall_mem_cons.mpr ⟨jg_1108, (List.forall_mem_cons.mpr ⟨jg_1109, (List.forall_mem_cons.mpr ⟨jg_1110, (fun _ h => absurd h List.not_mem_nil)⟩)⟩)⟩)⟩)
theorem jnw_2 : ∀ j, j < 4 → defaultValue (tyX3 j) = vp_V (jdf 2) j := by decide +kernel
theorem ju_3 : ∀ w ∈ u_ws RX4 TX4 3, w ∈ jG := show ∀ w ∈ [u_lay RX4 TX4 0, u_lay RX4 TX4 1, u_lay RX4 TX4 2], w ∈ jG from (List.forall_mem_cons.mpr ⟨jg_1111, (List.forall_mem_cons.mpr ⟨jg_1112, (List.forall_mem_cons.mpr ⟨jg_1113, (fun _ h => absurd h List.not_mem_nil)⟩)⟩)⟩)
theorem jnw_3 : ∀ j, j < 3 → defaultValue (tyX4 j) = vp_V (jdf 3) j := by decide +kernel
theorem ju_4 : ∀ w ∈ u_ws RX5 TX5 3, w ∈ jG := show ∀ w ∈ [u_lay RX5 TX5 0, u_lay RX5 TX5 1, u_lay RX5 TX5 2], w ∈ jG from (List.forall_mem_cons.mpr ⟨jg_1114, (List.forall_mem_cons.mpr ⟨jg_1115, (List.forall_mem_cons.mpr ⟨jg_1116, (fun _ h => absurd h List.not_mem_nil)⟩)⟩)⟩)
theorem jnw_4 : ∀ j, j < 3 → defaultValue (tyX5 j) = vp_V (jdf 4) j := by decide +kernel
theorem ju_5 : ∀ w ∈ u_ws RX6 TX6 8, w ∈ jG := show ∀ w ∈ [u_lay RX6 TX6 0, u_lay RX6 TX6 1, u_lay RX6 TX6 2, u_lay RX6 TX6 3, u_lay RX6 TX6 4, u_lay RX6 TX6 5, u_lay RX6 TX6 6, u_lay RX6 TX6 7], w ∈ jG from (List.forall_mem_cons.mpr ⟨jg_1117, (List.forall_mem_cons.mpr ⟨jg_1118, (List.forall_mem_cons.mpr ⟨jg_1119, (List.forall_mem_cons.mpr ⟨jg_1120, (List.forall_mem_cons.mpr ⟨jg_1121, (List.forall_mem_cons.mpr ⟨jg_1122, (List.forall_mem_cons.mpr ⟨jg_1123, (List.forall_mem_cons.mpr ⟨jg_1124, (fun _ h => absurd h List.not_mem_nil)⟩)⟩)⟩)⟩)⟩)⟩)⟩)⟩)
theorem jnw_5 : ∀ j, j < 8 → defaultValue (tyX6 j) = vp_V (jdf 5) j := by decide +kernel
theorem ju_6 : ∀ w ∈ u_ws RX7 TX7 14, w ∈ jG := show ∀ w ∈ [u_lay RX7 TX7 0, u_lay RX7 TX7 1, u_lay RX7 TX7 2, u_lay RX7 TX7 3, u_lay RX7 TX7 4, u_lay RX7 TX7 5, u_lay RX7 TX7 6, u_lay RX7 TX7 7, u_lay RX7 TX7 8, u_lay RX7 TX7 9, u_lay RX7 TX7 10, u_lay RX7 TX7 11, u_lay RX7 TX7 12, u_lay RX7 TX7 13], w ∈ jG from (List.forall_mem_cons.mpr ⟨jg_1125, (List.forall_mem_cons.mpr ⟨jg_1126, (List.forall_mem_cons.mpr ⟨jg_1127, (List.forall_mem_cons.mpr ⟨jg_1128, (List.forall_mem_cons.mpr ⟨jg_1129, (List.forall_mem_cons.mpr ⟨jg_1130, (List.forall_mem_cons.mpr ⟨jg_1131, (List.forall_mem_cons.mpr ⟨jg_1132, (List.forall_mem_cons.mpr ⟨jg_1133, (List.forall_mem_cons.mpr ⟨jg_1134, (List.forall_mem_cons.mpr ⟨jg_1135, (List.forall_mem_cons.mpr ⟨jg_1136, (List.forall_mem_cons.mpr ⟨jg_1137, (List.forall_mem_cons.mpr ⟨jg_1138, (fun _ h => absurd h List.not_mem_nil)⟩)⟩)⟩)⟩)⟩)⟩)⟩)⟩)⟩)⟩)⟩)⟩)⟩)⟩)
theorem jnw_6 : ∀ j, j < 14 → defaultValue (tyX7 j) = vp_V (jdf 6) j := by decide +kernel
theorem ju_7 : ∀ w ∈ u_ws RX8 TX8 9, w ∈ jG := show ∀ w ∈ [u_lay RX8 TX8 0, u_lay RX8 TX8 1, u_lay RX8 TX8 2, u_lay RX8 TX8 3, u_lay RX8 TX8 4, u_lay RX8 TX8 5, u_lay RX8 TX8 6, u_lay RX8 TX8 7, u_lay RX8 TX8 8], w ∈ jG from (List.forall_mem_cons.mpr ⟨jg_1139, (List.forall_mem_cons.mpr ⟨jg_1140, (List.forall_mem_cons.mpr ⟨jg_1141, (List.forall_mem_cons.mpr ⟨jg_1142, (List.forall_mem_cons.mpr ⟨jg_1143, (List.forall_mem_cons.mpr ⟨jg_1144, (List.forall_mem_cons.mpr ⟨jg_1145, (List.forall_mem_cons.mpr ⟨jg_1146, (List.forall_mem_cons.mpr ⟨jg_1147, (fun _ h => absurd h List.not_mem_nil)⟩)⟩)⟩)⟩)⟩)⟩)⟩)⟩)⟩)
theorem jnw_7 : ∀ j, j < 9 → defaultValue (tyX8 j) = vp_V (jdf 7) j := by decide +kernel
theorem ju_8 : ∀ w ∈ u_ws RX9 TX9 26, w ∈ jG := show ∀ w ∈ [u_lay RX9 TX9 0, u_lay RX9 TX9 1, u_lay RX9 TX9 2, u_lay RX9 TX9 3, u_lay RX9 TX9 4, u_lay RX9 TX9 5, u_lay RX9 TX9 6, u_lay RX9 TX9 7, u_lay RX9 TX9 8, u_lay RX9 TX9 9, u_lay RX9 TX9 10, u_lay RX9 TX9 11, u_lay RX9 TX9 12, u_lay RX9 TX9 13, u_lay RX9 TX9 14, u_lay RX9 TX9 15, u_lay RX9 TX9 16, u_lay RX9 TX9 17, u_lay RX9 TX9 18, u_lay RX9 TX9 19, u_lay RX9 TX9 20, u_lay RX9 TX9 21, u_lay RX9 TX9 22, u_lay RX9 TX9 23, u_lay RX9 TX9 24, u_lay RX9 TX9 25], w ∈ jG from (List.forall_mem_cons.mpr ⟨jg_1148, (List.forall_mem_cons.mpr ⟨jg_1149, (List.forall_mem_cons.mpr ⟨jg_1150, (List.forall_mem_cons.mpr ⟨jg_1151, (List.forall_mem_cons.mpr ⟨jg_1152, (List.forall_mem_cons.mpr ⟨jg_1153, (List.forall_mem_cons.mpr ⟨jg_1154, (List.forall_mem_cons.mpr ⟨jg_1155, (List.forall_mem_cons.mpr ⟨jg_1156, (List.forall_mem_cons.mpr ⟨jg_1157, (List.forall_mem_cons.mpr ⟨jg_1158, (List.forall_mem_cons.mpr ⟨jg_1159, (List.forall_mem_cons.mpr ⟨jg_1160, (List.forall_mem_cons.mpr ⟨jg_1161, (List.forall_mem_cons.mpr ⟨jg_1162, (List.forall_mem_cons.mpr ⟨jg_1163, (List.forall_mem_cons.mpr ⟨jg_1164, (List.forall_mem_cons.mpr ⟨jg_1165, (List.forall_mem_cons.mpr ⟨jg_1166, (List.forall_mem_cons.mpr ⟨jg_1167, (List.forall_mem_cons.mpr ⟨jg_1168, (List.forall_mem_cons.mpr ⟨jg_1169, (List.forall_mem_cons.mpr ⟨jg_1170, (List.forall_mem_cons.mpr ⟨jg_1171, (List.forall_mem_cons.mpr ⟨jg_1172, (List.forall_mem_cons.mpr ⟨jg_1173, (fun _ h => absurd h List.not_mem_nil)⟩)⟩)⟩)⟩)⟩)⟩)⟩)⟩)⟩)⟩)⟩)⟩)⟩)⟩)⟩)⟩)⟩)⟩)⟩)⟩)⟩)⟩)⟩)⟩)⟩)⟩)
theorem jnw_8 : ∀ j, j < 26 → defaultValue (tyX9 j) = vp_V (jdf 8) j := by decide +kernel
theorem jps {w : Cond} (h : w ∈ k2_sels lw_privs) : w ∈ lw_tbl := List.mem_append_left _ h
theorem js_X8_all : Cond.selects RX8 yX8_all yX8_all ∈ jG := jg_1174
theorem js_X8_apart : Cond.selects RX8 yX8_apart yX8_apart ∈ jG := jg_1175
theorem js_X8_areBubbles : Cond.selects RX8 yX8_areBubbles yX8_areBubbles ∈ jG := jg_in (jps (List.mem_map.mpr ⟨(yX8_areBubbles, 9), (show ((yX8_areBubbles, 9) : MethodName × Nat) ∈ lw_privs from List.mem_append_left _ (List.mem_of_getElem? (i := 3) rfl)), rfl⟩)) rfl
theorem js_X8_around : Cond.selects RX8 yX8_around yX8_around ∈ jG := jg_1176
theorem js_X8_as : Cond.selects RX8 yX8_as yX8_as ∈ jG := jg_1177
theorem js_X8_become : Cond.selects RX8 yX8_become yX8_become ∈ jG := jg_1178
theorem js_X8_beside : Cond.selects RX8 yX8_beside yX8_beside ∈ jG := jg_1179
theorem js_X8_body : Cond.selects RX8 yX8_body yX8_body ∈ jG := jg_1180
theorem js_X8_bubbleIs : Cond.selects RX8 yX8_bubbleIs yX8_bubbleIs ∈ jG := jg_1181
theorem js_X8_burst : Cond.selects RX8 yX8_burst yX8_burst ∈ jG := jg_1182
theorem js_X8_can : Cond.selects RX8 yX8_can yX8_can ∈ jG := jg_1183
theorem js_X8_check : Cond.selects RX8 yX8_check yX8_check ∈ jG := jg_1184
theorem js_X8_colour : Cond.selects RX8 yX8_colour yX8_colour ∈ jG := jg_1185
theorem js_X8_count : Cond.selects RX8 yX8_count yX8_count ∈ jG := jg_1186
theorem js_X8_end : Cond.selects RX8 yX8_end yX8_end ∈ jG := jg_1187
theorem js_X8_feed : Cond.selects RX8 yX8_feed yX8_feed ∈ jG := jg_1188
theorem js_X8_fill : Cond.selects RX8 yX8_fill yX8_fill ∈ jG := jg_1189
theorem js_X8_first : Cond.selects RX8 yX8_first yX8_first ∈ jG := jg_1190
theorem js_X8_foam : Cond.selects RX8 yX8_foam yX8_foam ∈ jG := jg_1191
theorem js_X8_gases : Cond.selects RX8 yX8_gases yX8_gases ∈ jG := jg_1192
theorem js_X8_image : Cond.selects RX8 yX8_image yX8_image ∈ jG := jg_1193
theorem js_X8_marked : Cond.selects RX8 yX8_marked yX8_marked ∈ jG := jg_1194
theorem js_X8_move : Cond.selects RX8 yX8_move yX8_move ∈ jG := jg_1195
theorem js_X8_no : Cond.selects RX8 yX8_no yX8_no ∈ jG := jg_in (jps (List.mem_map.mpr ⟨(yX8_no, 9), (show ((yX8_no, 9) : MethodName × Nat) ∈ lw_privs from List.mem_append_left _ (List.mem_of_getElem? (i := 0) rfl)), rfl⟩)) rfl
theorem js_X8_pace : Cond.selects RX8 yX8_pace yX8_pace ∈ jG := jg_1196
theorem js_X8_passes : Cond.selects RX8 yX8_passes yX8_passes ∈ jG := jg_1197
theorem js_X8_put : Cond.selects RX8 yX8_put yX8_put ∈ jG := jg_1198
theorem js_X8_restore : Cond.selects RX8 yX8_restore yX8_restore ∈ jG := jg_1199
theorem js_X8_ring : Cond.selects RX8 yX8_ring yX8_ring ∈ jG := jg_1200
theorem js_X8_rule : Cond.selects RX8 yX8_rule yX8_rule ∈ jG := jg_1201
theorem js_X8_seed : Cond.selects RX8 yX8_seed yX8_seed ∈ jG := jg_1202
theorem js_X8_sheet : Cond.selects RX8 yX8_sheet yX8_sheet ∈ jG := jg_1203
theorem js_X8_sides : Cond.selects RX8 yX8_sides yX8_sides ∈ jG := jg_1204
theorem js_X8_stands : Cond.selects RX8 yX8_stands yX8_stands ∈ jG := jg_1205
theorem js_X8_tell : Cond.selects RX8 yX8_tell yX8_tell ∈ jG := jg_1206
theorem js_X8_text : Cond.selects RX8 yX8_text yX8_text ∈ jG := jg_1207
theorem js_X8_tick : Cond.selects RX8 yX8_tick yX8_tick ∈ jG := jg_1208
theorem js_X8_told : Cond.selects RX8 yX8_told yX8_told ∈ jG := jg_1209
theorem js_X8_turn : Cond.selects RX8 yX8_turn yX8_turn ∈ jG := jg_1210
theorem js_X8_untell : Cond.selects RX8 yX8_untell yX8_untell ∈ jG := jg_1211
theorem js_X8_vanish : Cond.selects RX8 yX8_vanish yX8_vanish ∈ jG := jg_1212
theorem js_X8_voice : Cond.selects RX8 yX8_voice yX8_voice ∈ jG := jg_1213
theorem js_X8_way : Cond.selects RX8 yX8_way yX8_way ∈ jG := jg_1214
theorem js_X0_aheadOf : Cond.selects RX0 yX0_aheadOf yX0_aheadOf ∈ jG := jg_1215
theorem js_X0_at : Cond.selects RX0 yX0_at yX0_at ∈ jG := jg_1216
theorem js_X0_behind : Cond.selects RX0 yX0_behind yX0_behind ∈ jG := jg_1217
theorem js_X0_bitsBeside : Cond.selects RX0 yX0_bitsBeside yX0_bitsBeside ∈ jG := jg_1218
theorem js_X0_bury : Cond.selects RX0 yX0_bury yX0_bury ∈ jG := jg_in (jps (List.mem_map.mpr ⟨(yX0_bury, 11), (show ((yX0_bury, 11) : MethodName × Nat) ∈ lw_privs from List.mem_append_left _ (List.mem_of_getElem? (i := 8) rfl)), rfl⟩)) rfl
theorem js_X0_canBurst : Cond.selects RX0 yX0_canBurst yX0_canBurst ∈ jG := jg_1219
theorem js_X0_canLoseOne : Cond.selects RX0 yX0_canLoseOne yX0_canLoseOne ∈ jG := jg_in (jps (List.mem_map.mpr ⟨(yX0_canLoseOne, 11), (show ((yX0_canLoseOne, 11) : MethodName × Nat) ∈ lw_privs from List.mem_append_left _ (List.mem_of_getElem? (i := 5) rfl)), rfl⟩)) rfl
theorem js_X0_canTurn : Cond.selects RX0 yX0_canTurn yX0_canTurn ∈ jG := jg_1220
theorem js_X0_canVanish : Cond.selects RX0 yX0_canVanish yX0_canVanish ∈ jG := jg_1221
theorem js_X0_copyFrom : Cond.selects RX0 yX0_copyFrom yX0_copyFrom ∈ jG := jg_1222
theorem js_X0_glasses : Cond.selects RX0 yX0_glasses yX0_glasses ∈ jG := jg_1223
theorem js_X0_has : Cond.selects RX0 yX0_has yX0_has ∈ jG := jg_1224
theorem js_X0_howMany : Cond.selects RX0 yX0_howMany yX0_howMany ∈ jG := jg_1225
theorem js_X0_isWall : Cond.selects RX0 yX0_isWall yX0_isWall ∈ jG := jg_1226
theorem js_X0_joinRings : Cond.selects RX0 yX0_joinRings yX0_joinRings ∈ jG := jg_in (jps (List.mem_map.mpr ⟨(yX0_joinRings, 11), (show ((yX0_joinRings, 11) : MethodName × Nat) ∈ lw_privs from List.mem_append_left _ (List.mem_of_getElem? (i := 9) rfl)), rfl⟩)) rfl
theorem js_X0_lose : Cond.selects RX0 yX0_lose yX0_lose ∈ jG := jg_1227
theorem js_X0_make : Cond.selects RX0 yX0_make yX0_make ∈ jG := jg_1228
theorem js_X0_makeRing : Cond.selects RX0 yX0_makeRing yX0_makeRing ∈ jG := jg_in (jps (List.mem_map.mpr ⟨(yX0_makeRing, 11), (show ((yX0_makeRing, 11) : MethodName × Nat) ∈ lw_privs from List.mem_append_left _ (List.mem_of_getElem? (i := 1) rfl)), rfl⟩)) rfl
theorem js_X0_placeOf : Cond.selects RX0 yX0_placeOf yX0_placeOf ∈ jG := jg_1229
theorem js_X0_putBehind : Cond.selects RX0 yX0_putBehind yX0_putBehind ∈ jG := jg_in (jps (List.mem_map.mpr ⟨(yX0_putBehind, 11), (show ((yX0_putBehind, 11) : MethodName × Nat) ∈ lw_privs from List.mem_append_left _ (List.mem_of_getElem? (i := 7) rfl)), rfl⟩)) rfl
theorem js_X0_sidesBeside : Cond.selects RX0 yX0_sidesBeside yX0_sidesBeside ∈ jG := jg_1230
theorem js_X0_sidesOf : Cond.selects RX0 yX0_sidesOf yX0_sidesOf ∈ jG := jg_1231
theorem js_X0_standForBoth : Cond.selects RX0 yX0_standForBoth yX0_standForBoth ∈ jG := jg_in (jps (List.mem_map.mpr ⟨(yX0_standForBoth, 11), (show ((yX0_standForBoth, 11) : MethodName × Nat) ∈ lw_privs from List.mem_append_left _ (List.mem_of_getElem? (i := 10) rfl)), rfl⟩)) rfl
theorem js_X0_takeOut : Cond.selects RX0 yX0_takeOut yX0_takeOut ∈ jG := jg_in (jps (List.mem_map.mpr ⟨(yX0_takeOut, 11), (show ((yX0_takeOut, 11) : MethodName × Nat) ∈ lw_privs from List.mem_append_left _ (List.mem_of_getElem? (i := 6) rfl)), rfl⟩)) rfl
theorem js_X0_together : Cond.selects RX0 yX0_together yX0_together ∈ jG := jg_1232
theorem js_X0_toldAt : Cond.selects RX0 yX0_toldAt yX0_toldAt ∈ jG := jg_1233
theorem js_X0_touch : Cond.selects RX0 yX0_touch yX0_touch ∈ jG := jg_in (jps (List.mem_map.mpr ⟨(yX0_touch, 11), (show ((yX0_touch, 11) : MethodName × Nat) ∈ lw_privs from List.mem_append_left _ (List.mem_of_getElem? (i := 4) rfl)), rfl⟩)) rfl
theorem js_X0_turnOver : Cond.selects RX0 yX0_turnOver yX0_turnOver ∈ jG := jg_1234
theorem js_X0_unite : Cond.selects RX0 yX0_unite yX0_unite ∈ jG := jg_1235
theorem js_X0_walls : Cond.selects RX0 yX0_walls yX0_walls ∈ jG := jg_1236
theorem js_X2_both : Cond.selects RX2 yX2_both yX2_both ∈ jG := jg_in (jps (List.mem_map.mpr ⟨(yX2_both, 7), (show ((yX2_both, 7) : MethodName × Nat) ∈ lw_privs from List.mem_append_left _ (List.mem_of_getElem? (i := 12) rfl)), rfl⟩)) rfl
theorem js_X2_close : Cond.selects RX2 yX2_close yX2_close ∈ jG := jg_in (jps (List.mem_map.mpr ⟨(yX2_close, 7), (show ((yX2_close, 7) : MethodName × Nat) ∈ lw_privs from List.mem_append_right _ (List.mem_append_left _ (List.mem_of_getElem? (i := 5) rfl))), rfl⟩)) rfl
theorem js_X2_compared : Cond.selects RX2 yX2_compared yX2_compared ∈ jG := jg_in (jps (List.mem_map.mpr ⟨(yX2_compared, 7), (show ((yX2_compared, 7) : MethodName × Nat) ∈ lw_privs from List.mem_append_left _ (List.mem_of_getElem? (i := 13) rfl)), rfl⟩)) rfl
theorem js_X2_either : Cond.selects RX2 yX2_either yX2_either ∈ jG := jg_in (jps (List.mem_map.mpr ⟨(yX2_either, 7), (show ((yX2_either, 7) : MethodName × Nat) ∈ lw_privs from List.mem_append_left _ (List.mem_of_getElem? (i := 11) rfl)), rfl⟩)) rfl
theorem js_X2_next : Cond.selects RX2 yX2_next yX2_next ∈ jG := jg_in (jps (List.mem_map.mpr ⟨(yX2_next, 7), (show ((yX2_next, 7) : MethodName × Nat) ∈ lw_privs from List.mem_append_right _ (List.mem_append_left _ (List.mem_of_getElem? (i := 2) rfl))), rfl⟩)) rfl
theorem js_X2_nextIs : Cond.selects RX2 yX2_nextIs yX2_nextIs ∈ jG := jg_in (jps (List.mem_map.mpr ⟨(yX2_nextIs, 7), (show ((yX2_nextIs, 7) : MethodName × Nat) ∈ lw_privs from List.mem_append_right _ (List.mem_append_left _ (List.mem_of_getElem? (i := 1) rfl))), rfl⟩)) rfl
theorem js_X2_note : Cond.selects RX2 yX2_note yX2_note ∈ jG := jg_in (jps (List.mem_map.mpr ⟨(yX2_note, 7), (show ((yX2_note, 7) : MethodName × Nat) ∈ lw_privs from List.mem_append_right _ (List.mem_append_left _ (List.mem_of_getElem? (i := 4) rfl))), rfl⟩)) rfl
theorem js_X2_number : Cond.selects RX2 yX2_number yX2_number ∈ jG := jg_in (jps (List.mem_map.mpr ⟨(yX2_number, 7), (show ((yX2_number, 7) : MethodName × Nat) ∈ lw_privs from List.mem_append_right _ (List.mem_append_left _ (List.mem_of_getElem? (i := 3) rfl))), rfl⟩)) rfl
theorem js_X2_product : Cond.selects RX2 yX2_product yX2_product ∈ jG := jg_in (jps (List.mem_map.mpr ⟨(yX2_product, 7), (show ((yX2_product, 7) : MethodName × Nat) ∈ lw_privs from List.mem_append_left _ (List.mem_of_getElem? (i := 15) rfl)), rfl⟩)) rfl
theorem js_X2_read : Cond.selects RX2 yX2_read yX2_read ∈ jG := jg_1237
theorem js_X2_single : Cond.selects RX2 yX2_single yX2_single ∈ jG := jg_in (jps (List.mem_map.mpr ⟨(yX2_single, 7), (show ((yX2_single, 7) : MethodName × Nat) ∈ lw_privs from List.mem_append_right _ (List.mem_append_left _ (List.mem_of_getElem? (i := 0) rfl))), rfl⟩)) rfl
theorem js_X2_sum : Cond.selects RX2 yX2_sum yX2_sum ∈ jG := jg_in (jps (List.mem_map.mpr ⟨(yX2_sum, 7), (show ((yX2_sum, 7) : MethodName × Nat) ∈ lw_privs from List.mem_append_left _ (List.mem_of_getElem? (i := 14) rfl)), rfl⟩)) rfl
theorem js_X3_besideAny : Cond.selects RX3 yX3_besideAny yX3_besideAny ∈ jG := jg_in (jps (List.mem_map.mpr ⟨(yX3_besideAny, 4), (show ((yX3_besideAny, 4) : MethodName × Nat) ∈ lw_privs from List.mem_append_right _ (List.mem_append_right _ (List.mem_append_left _ (List.mem_of_getElem? (i := 2) rfl)))), rfl⟩)) rfl
theorem js_X3_canPaint : Cond.selects RX3 yX3_canPaint yX3_canPaint ∈ jG := jg_1238
theorem js_X3_look : Cond.selects RX3 yX3_look yX3_look ∈ jG := jg_1239
theorem js_X3_mostApart : Cond.selects RX3 yX3_mostApart yX3_mostApart ∈ jG := jg_1240
theorem js_X3_wallsBetween : Cond.selects RX3 yX3_wallsBetween yX3_wallsBetween ∈ jG := jg_1241
theorem js_X4_haveRun : Cond.selects RX4 yX4_haveRun yX4_haveRun ∈ jG := jg_1242
theorem js_X4_lay : Cond.selects RX4 yX4_lay yX4_lay ∈ jG := jg_1243
theorem js_X4_set : Cond.selects RX4 yX4_set yX4_set ∈ jG := jg_1244
theorem js_X5_copyFrom : Cond.selects RX5 yX5_copyFrom yX5_copyFrom ∈ jG := jg_1245
theorem js_X5_isTold : Cond.selects RX5 yX5_isTold yX5_isTold ∈ jG := jg_1246
theorem js_X5_take : Cond.selects RX5 yX5_take yX5_take ∈ jG := jg_1247
theorem js_X5_value : Cond.selects RX5 yX5_value yX5_value ∈ jG := jg_1248
theorem js_X6_answer : Cond.selects RX6 yX6_answer yX6_answer ∈ jG := jg_1249
theorem js_X6_keepTrace : Cond.selects RX6 yX6_keepTrace yX6_keepTrace ∈ jG := jg_1250
theorem js_X6_parting : Cond.selects RX6 yX6_parting yX6_parting ∈ jG := jg_in (jps (List.mem_map.mpr ⟨(yX6_parting, 8), (show ((yX6_parting, 8) : MethodName × Nat) ∈ lw_privs from List.mem_append_right _ (List.mem_append_right _ (List.mem_append_left _ (List.mem_of_getElem? (i := 5) rfl)))), rfl⟩)) rfl
theorem js_X6_say : Cond.selects RX6 yX6_say yX6_say ∈ jG := jg_in (jps (List.mem_map.mpr ⟨(yX6_say, 8), (show ((yX6_say, 8) : MethodName × Nat) ∈ lw_privs from List.mem_append_right _ (List.mem_append_right _ (List.mem_append_left _ (List.mem_of_getElem? (i := 3) rfl)))), rfl⟩)) rfl
theorem js_X6_speak : Cond.selects RX6 yX6_speak yX6_speak ∈ jG := jg_in (jps (List.mem_map.mpr ⟨(yX6_speak, 8), (show ((yX6_speak, 8) : MethodName × Nat) ∈ lw_privs from List.mem_append_right _ (List.mem_append_right _ (List.mem_append_left _ (List.mem_of_getElem? (i := 4) rfl)))), rfl⟩)) rfl
theorem js_X7_bitsBelow : Cond.selects RX7 yX7_bitsBelow yX7_bitsBelow ∈ jG := jg_in (jps (List.mem_map.mpr ⟨(yX7_bitsBelow, 14), (show ((yX7_bitsBelow, 14) : MethodName × Nat) ∈ lw_privs from List.mem_append_right _ (List.mem_append_left _ (List.mem_of_getElem? (i := 11) rfl))), rfl⟩)) rfl
theorem js_X7_burstDry : Cond.selects RX7 yX7_burstDry yX7_burstDry ∈ jG := jg_in (jps (List.mem_map.mpr ⟨(yX7_burstDry, 14), (show ((yX7_burstDry, 14) : MethodName × Nat) ∈ lw_privs from List.mem_append_right _ (List.mem_append_left _ (List.mem_of_getElem? (i := 13) rfl))), rfl⟩)) rfl
theorem js_X7_burstOf : Cond.selects RX7 yX7_burstOf yX7_burstOf ∈ jG := jg_in (jps (List.mem_map.mpr ⟨(yX7_burstOf, 14), (show ((yX7_burstOf, 14) : MethodName × Nat) ∈ lw_privs from List.mem_append_right _ (List.mem_append_left _ (List.mem_of_getElem? (i := 14) rfl))), rfl⟩)) rfl
theorem js_X7_copyFrom : Cond.selects RX7 yX7_copyFrom yX7_copyFrom ∈ jG := jg_1251
theorem js_X7_drain : Cond.selects RX7 yX7_drain yX7_drain ∈ jG := jg_in (jps (List.mem_map.mpr ⟨(yX7_drain, 14), (show ((yX7_drain, 14) : MethodName × Nat) ∈ lw_privs from List.mem_append_right _ (List.mem_append_left _ (List.mem_of_getElem? (i := 12) rfl))), rfl⟩)) rfl
theorem js_X7_drawn : Cond.selects RX7 yX7_drawn yX7_drawn ∈ jG := jg_in (jps (List.mem_map.mpr ⟨(yX7_drawn, 14), (show ((yX7_drawn, 14) : MethodName × Nat) ∈ lw_privs from List.mem_append_right _ (List.mem_append_left _ (List.mem_of_getElem? (i := 15) rfl))), rfl⟩)) rfl
theorem js_X7_dry : Cond.selects RX7 yX7_dry yX7_dry ∈ jG := jg_1252
theorem js_X7_give : Cond.selects RX7 yX7_give yX7_give ∈ jG := jg_in (jps (List.mem_map.mpr ⟨(yX7_give, 14), (show ((yX7_give, 14) : MethodName × Nat) ∈ lw_privs from List.mem_append_right _ (List.mem_append_left _ (List.mem_of_getElem? (i := 8) rfl))), rfl⟩)) rfl
theorem js_X7_giveWater : Cond.selects RX7 yX7_giveWater yX7_giveWater ∈ jG := jg_in (jps (List.mem_map.mpr ⟨(yX7_giveWater, 14), (show ((yX7_giveWater, 14) : MethodName × Nat) ∈ lw_privs from List.mem_append_right _ (List.mem_append_left _ (List.mem_of_getElem? (i := 10) rfl))), rfl⟩)) rfl
theorem js_X7_goOn : Cond.selects RX7 yX7_goOn yX7_goOn ∈ jG := jg_1253
theorem js_X7_law : Cond.selects RX7 yX7_law yX7_law ∈ jG := jg_in (jps (List.mem_map.mpr ⟨(yX7_law, 14), (show ((yX7_law, 14) : MethodName × Nat) ∈ lw_privs from List.mem_append_right _ (List.mem_append_left _ (List.mem_of_getElem? (i := 6) rfl))), rfl⟩)) rfl
theorem js_X7_loseEmpty : Cond.selects RX7 yX7_loseEmpty yX7_loseEmpty ∈ jG := jg_in (jps (List.mem_map.mpr ⟨(yX7_loseEmpty, 14), (show ((yX7_loseEmpty, 14) : MethodName × Nat) ∈ lw_privs from List.mem_append_right _ (List.mem_append_right _ (List.mem_append_left _ (List.mem_of_getElem? (i := 0) rfl)))), rfl⟩)) rfl
theorem js_X7_mark : Cond.selects RX7 yX7_mark yX7_mark ∈ jG := jg_1254
theorem js_X7_name : Cond.selects RX7 yX7_name yX7_name ∈ jG := jg_in (jps (List.mem_map.mpr ⟨(yX7_name, 14), (show ((yX7_name, 14) : MethodName × Nat) ∈ lw_privs from List.mem_append_left _ (List.mem_of_getElem? (i := 2) rfl)), rfl⟩)) rfl
theorem js_X7_passGas : Cond.selects RX7 yX7_passGas yX7_passGas ∈ jG := jg_in (jps (List.mem_map.mpr ⟨(yX7_passGas, 14), (show ((yX7_passGas, 14) : MethodName × Nat) ∈ lw_privs from List.mem_append_right _ (List.mem_append_left _ (List.mem_of_getElem? (i := 7) rfl))), rfl⟩)) rfl
theorem js_X7_passing : Cond.selects RX7 yX7_passing yX7_passing ∈ jG := jg_1255
theorem js_X7_runDown : Cond.selects RX7 yX7_runDown yX7_runDown ∈ jG := jg_in (jps (List.mem_map.mpr ⟨(yX7_runDown, 14), (show ((yX7_runDown, 14) : MethodName × Nat) ∈ lw_privs from List.mem_append_right _ (List.mem_append_left _ (List.mem_of_getElem? (i := 9) rfl))), rfl⟩)) rfl
theorem js_X7_startAnew : Cond.selects RX7 yX7_startAnew yX7_startAnew ∈ jG := jg_1256
theorem js_X7_takeBytes : Cond.selects RX7 yX7_takeBytes yX7_takeBytes ∈ jG := jg_1257
theorem js_X7_turnFirst : Cond.selects RX7 yX7_turnFirst yX7_turnFirst ∈ jG := jg_in (jps (List.mem_map.mpr ⟨(yX7_turnFirst, 14), (show ((yX7_turnFirst, 14) : MethodName × Nat) ∈ lw_privs from List.mem_append_right _ (List.mem_append_right _ (List.mem_append_left _ (List.mem_of_getElem? (i := 1) rfl)))), rfl⟩)) rfl
theorem js_X9_ahead : Cond.selects RX9 yX9_ahead yX9_ahead ∈ jG := jg_in (jps (List.mem_map.mpr ⟨(yX9_ahead, 26), (show ((yX9_ahead, 26) : MethodName × Nat) ∈ lw_privs from List.mem_append_right _ (List.mem_append_right _ (List.mem_append_right _ (List.mem_append_left _ (List.mem_of_getElem? (i := 9) rfl))))), rfl⟩)) rfl
theorem js_X9_all : Cond.selects RX9 yX9_all yX9_all ∈ jG := jg_1258
theorem js_X9_apart : Cond.selects RX9 yX9_apart yX9_apart ∈ jG := jg_1259
theorem js_X9_areTwo : Cond.selects RX9 yX9_areTwo yX9_areTwo ∈ jG := jg_in (jps (List.mem_map.mpr ⟨(yX9_areTwo, 26), (show ((yX9_areTwo, 26) : MethodName × Nat) ∈ lw_privs from List.mem_append_right _ (List.mem_append_right _ (List.mem_append_right _ (List.mem_append_left _ (List.mem_of_getElem? (i := 6) rfl))))), rfl⟩)) rfl
theorem js_X9_around : Cond.selects RX9 yX9_around yX9_around ∈ jG := jg_1260
theorem js_X9_as : Cond.selects RX9 yX9_as yX9_as ∈ jG := jg_1261
theorem js_X9_at : Cond.selects RX9 yX9_at yX9_at ∈ jG := jg_in (jps (List.mem_map.mpr ⟨(yX9_at, 26), (show ((yX9_at, 26) : MethodName × Nat) ∈ lw_privs from List.mem_append_right _ (List.mem_append_right _ (List.mem_append_right _ (List.mem_append_left _ (List.mem_of_getElem? (i := 5) rfl))))), rfl⟩)) rfl
theorem js_X9_become : Cond.selects RX9 yX9_become yX9_become ∈ jG := jg_1262
theorem js_X9_began : Cond.selects RX9 yX9_began yX9_began ∈ jG := jg_in (jps (List.mem_map.mpr ⟨(yX9_began, 26), (show ((yX9_began, 26) : MethodName × Nat) ∈ lw_privs from List.mem_append_right _ (List.mem_append_right _ (List.mem_append_right _ (List.mem_append_right _ (List.mem_append_right _ (List.mem_append_right _ (List.mem_of_getElem? (i := 0) rfl))))))), rfl⟩)) rfl
theorem js_X9_behind : Cond.selects RX9 yX9_behind yX9_behind ∈ jG := jg_in (jps (List.mem_map.mpr ⟨(yX9_behind, 26), (show ((yX9_behind, 26) : MethodName × Nat) ∈ lw_privs from List.mem_append_right _ (List.mem_append_right _ (List.mem_append_right _ (List.mem_append_left _ (List.mem_of_getElem? (i := 10) rfl))))), rfl⟩)) rfl
theorem js_X9_beside : Cond.selects RX9 yX9_beside yX9_beside ∈ jG := jg_1263
theorem js_X9_besides : Cond.selects RX9 yX9_besides yX9_besides ∈ jG := jg_in (jps (List.mem_map.mpr ⟨(yX9_besides, 26), (show ((yX9_besides, 26) : MethodName × Nat) ∈ lw_privs from List.mem_append_right _ (List.mem_append_right _ (List.mem_append_right _ (List.mem_append_right _ (List.mem_append_right _ (List.mem_append_left _ (List.mem_of_getElem? (i := 9) rfl))))))), rfl⟩)) rfl
theorem js_X9_body_ : Cond.selects RX9 yX9_body_ yX9_body_ ∈ jG := jg_1264
theorem js_X9_body : Cond.selects RX9 yX9_body yX9_body ∈ jG := jg_in (jps (List.mem_map.mpr ⟨(yX9_body, 26), (show ((yX9_body, 26) : MethodName × Nat) ∈ lw_privs from List.mem_append_right _ (List.mem_append_right _ (List.mem_append_right _ (List.mem_append_right _ (List.mem_append_right _ (List.mem_append_left _ (List.mem_of_getElem? (i := 15) rfl))))))), rfl⟩)) rfl
theorem js_X9_bodyFrom : Cond.selects RX9 yX9_bodyFrom yX9_bodyFrom ∈ jG := jg_in (jps (List.mem_map.mpr ⟨(yX9_bodyFrom, 26), (show ((yX9_bodyFrom, 26) : MethodName × Nat) ∈ lw_privs from List.mem_append_right _ (List.mem_append_right _ (List.mem_append_right _ (List.mem_append_right _ (List.mem_append_right _ (List.mem_append_left _ (List.mem_of_getElem? (i := 14) rfl))))))), rfl⟩)) rfl
theorem js_X9_both : Cond.selects RX9 yX9_both yX9_both ∈ jG := jg_in (jps (List.mem_map.mpr ⟨(yX9_both, 26), (show ((yX9_both, 26) : MethodName × Nat) ∈ lw_privs from List.mem_append_right _ (List.mem_append_right _ (List.mem_append_right _ (List.mem_append_right _ (List.mem_append_left _ (List.mem_of_getElem? (i := 5) rfl)))))), rfl⟩)) rfl
theorem js_X9_bubbleIs : Cond.selects RX9 yX9_bubbleIs yX9_bubbleIs ∈ jG := jg_1265
theorem js_X9_burst : Cond.selects RX9 yX9_burst yX9_burst ∈ jG := jg_1266
theorem js_X9_bursts : Cond.selects RX9 yX9_bursts yX9_bursts ∈ jG := jg_in (jps (List.mem_map.mpr ⟨(yX9_bursts, 26), (show ((yX9_bursts, 26) : MethodName × Nat) ∈ lw_privs from List.mem_append_right _ (List.mem_append_right _ (List.mem_append_right _ (List.mem_append_right _ (List.mem_append_left _ (List.mem_of_getElem? (i := 3) rfl)))))), rfl⟩)) rfl
theorem js_X9_burstsAll : Cond.selects RX9 yX9_burstsAll yX9_burstsAll ∈ jG := jg_in (jps (List.mem_map.mpr ⟨(yX9_burstsAll, 26), (show ((yX9_burstsAll, 26) : MethodName × Nat) ∈ lw_privs from List.mem_append_right _ (List.mem_append_right _ (List.mem_append_right _ (List.mem_append_right _ (List.mem_append_right _ (List.mem_append_left _ (List.mem_of_getElem? (i := 5) rfl))))))), rfl⟩)) rfl
theorem js_X9_can : Cond.selects RX9 yX9_can yX9_can ∈ jG := jg_1267
theorem js_X9_canBurst : Cond.selects RX9 yX9_canBurst yX9_canBurst ∈ jG := jg_in (jps (List.mem_map.mpr ⟨(yX9_canBurst, 26), (show ((yX9_canBurst, 26) : MethodName × Nat) ∈ lw_privs from List.mem_append_right _ (List.mem_append_right _ (List.mem_append_right _ (List.mem_append_left _ (List.mem_of_getElem? (i := 12) rfl))))), rfl⟩)) rfl
theorem js_X9_canTurn : Cond.selects RX9 yX9_canTurn yX9_canTurn ∈ jG := jg_in (jps (List.mem_map.mpr ⟨(yX9_canTurn, 26), (show ((yX9_canTurn, 26) : MethodName × Nat) ∈ lw_privs from List.mem_append_right _ (List.mem_append_right _ (List.mem_append_right _ (List.mem_append_left _ (List.mem_of_getElem? (i := 11) rfl))))), rfl⟩)) rfl
theorem js_X9_canVanish : Cond.selects RX9 yX9_canVanish yX9_canVanish ∈ jG := jg_in (jps (List.mem_map.mpr ⟨(yX9_canVanish, 26), (show ((yX9_canVanish, 26) : MethodName × Nat) ∈ lw_privs from List.mem_append_right _ (List.mem_append_right _ (List.mem_append_right _ (List.mem_append_left _ (List.mem_of_getElem? (i := 13) rfl))))), rfl⟩)) rfl
theorem js_X9_check : Cond.selects RX9 yX9_check yX9_check ∈ jG := jg_1268
theorem js_X9_codes : Cond.selects RX9 yX9_codes yX9_codes ∈ jG := jg_in (jps (List.mem_map.mpr ⟨(yX9_codes, 26), (show ((yX9_codes, 26) : MethodName × Nat) ∈ lw_privs from List.mem_append_right _ (List.mem_append_right _ (List.mem_append_right _ (List.mem_append_right _ (List.mem_append_left _ (List.mem_of_getElem? (i := 11) rfl)))))), rfl⟩)) rfl
theorem js_X9_colour : Cond.selects RX9 yX9_colour yX9_colour ∈ jG := jg_1269
theorem js_X9_coloured : Cond.selects RX9 yX9_coloured yX9_coloured ∈ jG := jg_in (jps (List.mem_map.mpr ⟨(yX9_coloured, 26), (show ((yX9_coloured, 26) : MethodName × Nat) ∈ lw_privs from List.mem_append_right _ (List.mem_append_right _ (List.mem_append_right _ (List.mem_append_right _ (List.mem_append_right _ (List.mem_append_left _ (List.mem_of_getElem? (i := 10) rfl))))))), rfl⟩)) rfl
theorem js_X9_comes : Cond.selects RX9 yX9_comes yX9_comes ∈ jG := jg_in (jps (List.mem_map.mpr ⟨(yX9_comes, 26), (show ((yX9_comes, 26) : MethodName × Nat) ∈ lw_privs from List.mem_append_right _ (List.mem_append_right _ (List.mem_append_right _ (List.mem_append_left _ (List.mem_of_getElem? (i := 3) rfl))))), rfl⟩)) rfl
theorem js_X9_compared : Cond.selects RX9 yX9_compared yX9_compared ∈ jG := jg_in (jps (List.mem_map.mpr ⟨(yX9_compared, 26), (show ((yX9_compared, 26) : MethodName × Nat) ∈ lw_privs from List.mem_append_right _ (List.mem_append_right _ (List.mem_append_right _ (List.mem_append_right _ (List.mem_append_left _ (List.mem_of_getElem? (i := 6) rfl)))))), rfl⟩)) rfl
theorem js_X9_count : Cond.selects RX9 yX9_count yX9_count ∈ jG := jg_1270
theorem js_X9_drains : Cond.selects RX9 yX9_drains yX9_drains ∈ jG := jg_in (jps (List.mem_map.mpr ⟨(yX9_drains, 26), (show ((yX9_drains, 26) : MethodName × Nat) ∈ lw_privs from List.mem_append_right _ (List.mem_append_right _ (List.mem_append_right _ (List.mem_append_right _ (List.mem_append_right _ (List.mem_append_left _ (List.mem_of_getElem? (i := 4) rfl))))))), rfl⟩)) rfl
theorem js_X9_drawn : Cond.selects RX9 yX9_drawn yX9_drawn ∈ jG := jg_in (jps (List.mem_map.mpr ⟨(yX9_drawn, 26), (show ((yX9_drawn, 26) : MethodName × Nat) ∈ lw_privs from List.mem_append_right _ (List.mem_append_right _ (List.mem_append_right _ (List.mem_append_right _ (List.mem_append_right _ (List.mem_append_left _ (List.mem_of_getElem? (i := 7) rfl))))))), rfl⟩)) rfl
theorem js_X9_dryOf : Cond.selects RX9 yX9_dryOf yX9_dryOf ∈ jG := jg_in (jps (List.mem_map.mpr ⟨(yX9_dryOf, 26), (show ((yX9_dryOf, 26) : MethodName × Nat) ∈ lw_privs from List.mem_append_right _ (List.mem_append_right _ (List.mem_append_left _ (List.mem_of_getElem? (i := 13) rfl)))), rfl⟩)) rfl
theorem js_X9_either : Cond.selects RX9 yX9_either yX9_either ∈ jG := jg_in (jps (List.mem_map.mpr ⟨(yX9_either, 26), (show ((yX9_either, 26) : MethodName × Nat) ∈ lw_privs from List.mem_append_right _ (List.mem_append_right _ (List.mem_append_right _ (List.mem_append_right _ (List.mem_append_left _ (List.mem_of_getElem? (i := 4) rfl)))))), rfl⟩)) rfl
theorem js_X9_end : Cond.selects RX9 yX9_end yX9_end ∈ jG := jg_1271
theorem js_X9_feed : Cond.selects RX9 yX9_feed yX9_feed ∈ jG := jg_1272
theorem js_X9_fill : Cond.selects RX9 yX9_fill yX9_fill ∈ jG := jg_1273
theorem js_X9_finding : Cond.selects RX9 yX9_finding yX9_finding ∈ jG := jg_in (jps (List.mem_map.mpr ⟨(yX9_finding, 26), (show ((yX9_finding, 26) : MethodName × Nat) ∈ lw_privs from List.mem_append_right _ (List.mem_append_right _ (List.mem_append_left _ (List.mem_of_getElem? (i := 6) rfl)))), rfl⟩)) rfl
theorem js_X9_first : Cond.selects RX9 yX9_first yX9_first ∈ jG := jg_1274
theorem js_X9_foam : Cond.selects RX9 yX9_foam yX9_foam ∈ jG := jg_1275
theorem js_X9_gases : Cond.selects RX9 yX9_gases yX9_gases ∈ jG := jg_1276
theorem js_X9_given : Cond.selects RX9 yX9_given yX9_given ∈ jG := jg_in (jps (List.mem_map.mpr ⟨(yX9_given, 26), (show ((yX9_given, 26) : MethodName × Nat) ∈ lw_privs from List.mem_append_right _ (List.mem_append_right _ (List.mem_append_right _ (List.mem_append_left _ (List.mem_of_getElem? (i := 0) rfl))))), rfl⟩)) rfl
theorem js_X9_gives : Cond.selects RX9 yX9_gives yX9_gives ∈ jG := jg_in (jps (List.mem_map.mpr ⟨(yX9_gives, 26), (show ((yX9_gives, 26) : MethodName × Nat) ∈ lw_privs from List.mem_append_right _ (List.mem_append_right _ (List.mem_append_right _ (List.mem_append_right _ (List.mem_append_right _ (List.mem_append_left _ (List.mem_of_getElem? (i := 1) rfl))))))), rfl⟩)) rfl
theorem js_X9_glassesOf : Cond.selects RX9 yX9_glassesOf yX9_glassesOf ∈ jG := jg_in (jps (List.mem_map.mpr ⟨(yX9_glassesOf, 26), (show ((yX9_glassesOf, 26) : MethodName × Nat) ∈ lw_privs from List.mem_append_right _ (List.mem_append_right _ (List.mem_append_left _ (List.mem_of_getElem? (i := 12) rfl)))), rfl⟩)) rfl
theorem js_X9_grows : Cond.selects RX9 yX9_grows yX9_grows ∈ jG := jg_in (jps (List.mem_map.mpr ⟨(yX9_grows, 26), (show ((yX9_grows, 26) : MethodName × Nat) ∈ lw_privs from List.mem_append_right _ (List.mem_append_right _ (List.mem_append_left _ (List.mem_of_getElem? (i := 8) rfl)))), rfl⟩)) rfl
theorem js_X9_hasText : Cond.selects RX9 yX9_hasText yX9_hasText ∈ jG := jg_in (jps (List.mem_map.mpr ⟨(yX9_hasText, 26), (show ((yX9_hasText, 26) : MethodName × Nat) ∈ lw_privs from List.mem_append_right _ (List.mem_append_right _ (List.mem_append_right _ (List.mem_append_left _ (List.mem_of_getElem? (i := 1) rfl))))), rfl⟩)) rfl
theorem js_X9_here : Cond.selects RX9 yX9_here yX9_here ∈ jG := jg_in (jps (List.mem_map.mpr ⟨(yX9_here, 26), (show ((yX9_here, 26) : MethodName × Nat) ∈ lw_privs from List.mem_append_right _ (List.mem_append_right _ (List.mem_append_right _ (List.mem_append_right _ (List.mem_append_left _ (List.mem_of_getElem? (i := 10) rfl)))))), rfl⟩)) rfl
theorem js_X9_image : Cond.selects RX9 yX9_image yX9_image ∈ jG := jg_1277
theorem js_X9_is : Cond.selects RX9 yX9_is yX9_is ∈ jG := jg_in (jps (List.mem_map.mpr ⟨(yX9_is, 26), (show ((yX9_is, 26) : MethodName × Nat) ∈ lw_privs from List.mem_append_right _ (List.mem_append_right _ (List.mem_append_left _ (List.mem_of_getElem? (i := 11) rfl)))), rfl⟩)) rfl
theorem js_X9_isDry : Cond.selects RX9 yX9_isDry yX9_isDry ∈ jG := jg_in (jps (List.mem_map.mpr ⟨(yX9_isDry, 26), (show ((yX9_isDry, 26) : MethodName × Nat) ∈ lw_privs from List.mem_append_right _ (List.mem_append_right _ (List.mem_append_right _ (List.mem_append_right _ (List.mem_append_right _ (List.mem_append_left _ (List.mem_of_getElem? (i := 6) rfl))))))), rfl⟩)) rfl
theorem js_X9_isLower : Cond.selects RX9 yX9_isLower yX9_isLower ∈ jG := jg_in (jps (List.mem_map.mpr ⟨(yX9_isLower, 26), (show ((yX9_isLower, 26) : MethodName × Nat) ∈ lw_privs from List.mem_append_right _ (List.mem_append_right _ (List.mem_append_right _ (List.mem_append_right _ (List.mem_append_right _ (List.mem_append_left _ (List.mem_of_getElem? (i := 3) rfl))))))), rfl⟩)) rfl
theorem js_X9_isWall : Cond.selects RX9 yX9_isWall yX9_isWall ∈ jG := jg_in (jps (List.mem_map.mpr ⟨(yX9_isWall, 26), (show ((yX9_isWall, 26) : MethodName × Nat) ∈ lw_privs from List.mem_append_right _ (List.mem_append_right _ (List.mem_append_right _ (List.mem_append_left _ (List.mem_of_getElem? (i := 7) rfl))))), rfl⟩)) rfl
theorem js_X9_leastIn : Cond.selects RX9 yX9_leastIn yX9_leastIn ∈ jG := jg_in (jps (List.mem_map.mpr ⟨(yX9_leastIn, 26), (show ((yX9_leastIn, 26) : MethodName × Nat) ∈ lw_privs from List.mem_append_right _ (List.mem_append_right _ (List.mem_append_right _ (List.mem_append_left _ (List.mem_of_getElem? (i := 4) rfl))))), rfl⟩)) rfl
theorem js_X9_letsOf : Cond.selects RX9 yX9_letsOf yX9_letsOf ∈ jG := jg_in (jps (List.mem_map.mpr ⟨(yX9_letsOf, 26), (show ((yX9_letsOf, 26) : MethodName × Nat) ∈ lw_privs from List.mem_append_right _ (List.mem_append_right _ (List.mem_append_left _ (List.mem_of_getElem? (i := 14) rfl)))), rfl⟩)) rfl
theorem js_X9_many : Cond.selects RX9 yX9_many yX9_many ∈ jG := jg_in (jps (List.mem_map.mpr ⟨(yX9_many, 26), (show ((yX9_many, 26) : MethodName × Nat) ∈ lw_privs from List.mem_append_right _ (List.mem_append_right _ (List.mem_append_right _ (List.mem_append_right _ (List.mem_append_left _ (List.mem_of_getElem? (i := 2) rfl)))))), rfl⟩)) rfl
theorem js_X9_markOf : Cond.selects RX9 yX9_markOf yX9_markOf ∈ jG := jg_in (jps (List.mem_map.mpr ⟨(yX9_markOf, 26), (show ((yX9_markOf, 26) : MethodName × Nat) ∈ lw_privs from List.mem_append_right _ (List.mem_append_right _ (List.mem_append_left _ (List.mem_of_getElem? (i := 15) rfl)))), rfl⟩)) rfl
theorem js_X9_marked : Cond.selects RX9 yX9_marked yX9_marked ∈ jG := jg_1278
theorem js_X9_mayBe : Cond.selects RX9 yX9_mayBe yX9_mayBe ∈ jG := jg_in (jps (List.mem_map.mpr ⟨(yX9_mayBe, 26), (show ((yX9_mayBe, 26) : MethodName × Nat) ∈ lw_privs from List.mem_append_right _ (List.mem_append_right _ (List.mem_append_right _ (List.mem_append_right _ (List.mem_append_right _ (List.mem_append_left _ (List.mem_of_getElem? (i := 11) rfl))))))), rfl⟩)) rfl
theorem js_X9_move : Cond.selects RX9 yX9_move yX9_move ∈ jG := jg_1279
theorem js_X9_nameOf : Cond.selects RX9 yX9_nameOf yX9_nameOf ∈ jG := jg_in (jps (List.mem_map.mpr ⟨(yX9_nameOf, 26), (show ((yX9_nameOf, 26) : MethodName × Nat) ∈ lw_privs from List.mem_append_right _ (List.mem_append_right _ (List.mem_append_right _ (List.mem_append_right _ (List.mem_append_left _ (List.mem_of_getElem? (i := 13) rfl)))))), rfl⟩)) rfl
theorem js_X9_of : Cond.selects RX9 yX9_of yX9_of ∈ jG := jg_in (jps (List.mem_map.mpr ⟨(yX9_of, 26), (show ((yX9_of, 26) : MethodName × Nat) ∈ lw_privs from List.mem_append_right _ (List.mem_append_right _ (List.mem_append_left _ (List.mem_of_getElem? (i := 10) rfl)))), rfl⟩)) rfl
theorem js_X9_one : Cond.selects RX9 yX9_one yX9_one ∈ jG := jg_in (jps (List.mem_map.mpr ⟨(yX9_one, 26), (show ((yX9_one, 26) : MethodName × Nat) ∈ lw_privs from List.mem_append_right _ (List.mem_append_right _ (List.mem_append_right _ (List.mem_append_right _ (List.mem_append_left _ (List.mem_of_getElem? (i := 9) rfl)))))), rfl⟩)) rfl
theorem js_X9_opens : Cond.selects RX9 yX9_opens yX9_opens ∈ jG := jg_in (jps (List.mem_map.mpr ⟨(yX9_opens, 26), (show ((yX9_opens, 26) : MethodName × Nat) ∈ lw_privs from List.mem_append_right _ (List.mem_append_right _ (List.mem_append_right _ (List.mem_append_right _ (List.mem_append_left _ (List.mem_of_getElem? (i := 0) rfl)))))), rfl⟩)) rfl
theorem js_X9_pace : Cond.selects RX9 yX9_pace yX9_pace ∈ jG := jg_1280
theorem js_X9_passes : Cond.selects RX9 yX9_passes yX9_passes ∈ jG := jg_1281
theorem js_X9_passesAll : Cond.selects RX9 yX9_passesAll yX9_passesAll ∈ jG := jg_in (jps (List.mem_map.mpr ⟨(yX9_passesAll, 26), (show ((yX9_passesAll, 26) : MethodName × Nat) ∈ lw_privs from List.mem_append_right _ (List.mem_append_right _ (List.mem_append_right _ (List.mem_append_right _ (List.mem_append_right _ (List.mem_append_left _ (List.mem_of_getElem? (i := 0) rfl))))))), rfl⟩)) rfl
theorem js_X9_passesBy : Cond.selects RX9 yX9_passesBy yX9_passesBy ∈ jG := jg_in (jps (List.mem_map.mpr ⟨(yX9_passesBy, 26), (show ((yX9_passesBy, 26) : MethodName × Nat) ∈ lw_privs from List.mem_append_right _ (List.mem_append_right _ (List.mem_append_right _ (List.mem_append_right _ (List.mem_append_left _ (List.mem_of_getElem? (i := 14) rfl)))))), rfl⟩)) rfl
theorem js_X9_placeIn : Cond.selects RX9 yX9_placeIn yX9_placeIn ∈ jG := jg_in (jps (List.mem_map.mpr ⟨(yX9_placeIn, 26), (show ((yX9_placeIn, 26) : MethodName × Nat) ∈ lw_privs from List.mem_append_right _ (List.mem_append_right _ (List.mem_append_right _ (List.mem_append_left _ (List.mem_of_getElem? (i := 8) rfl))))), rfl⟩)) rfl
theorem js_X9_product : Cond.selects RX9 yX9_product yX9_product ∈ jG := jg_in (jps (List.mem_map.mpr ⟨(yX9_product, 26), (show ((yX9_product, 26) : MethodName × Nat) ∈ lw_privs from List.mem_append_right _ (List.mem_append_right _ (List.mem_append_right _ (List.mem_append_right _ (List.mem_append_left _ (List.mem_of_getElem? (i := 8) rfl)))))), rfl⟩)) rfl
theorem js_X9_put : Cond.selects RX9 yX9_put yX9_put ∈ jG := jg_1282
theorem js_X9_restore : Cond.selects RX9 yX9_restore yX9_restore ∈ jG := jg_1283
theorem js_X9_ring : Cond.selects RX9 yX9_ring yX9_ring ∈ jG := jg_1284
theorem js_X9_rule : Cond.selects RX9 yX9_rule yX9_rule ∈ jG := jg_1285
theorem js_X9_runs : Cond.selects RX9 yX9_runs yX9_runs ∈ jG := jg_in (jps (List.mem_map.mpr ⟨(yX9_runs, 26), (show ((yX9_runs, 26) : MethodName × Nat) ∈ lw_privs from List.mem_append_right _ (List.mem_append_right _ (List.mem_append_right _ (List.mem_append_right _ (List.mem_append_right _ (List.mem_append_left _ (List.mem_of_getElem? (i := 2) rfl))))))), rfl⟩)) rfl
theorem js_X9_seed : Cond.selects RX9 yX9_seed yX9_seed ∈ jG := jg_1286
theorem js_X9_sheet : Cond.selects RX9 yX9_sheet yX9_sheet ∈ jG := jg_1287
theorem js_X9_shuts : Cond.selects RX9 yX9_shuts yX9_shuts ∈ jG := jg_in (jps (List.mem_map.mpr ⟨(yX9_shuts, 26), (show ((yX9_shuts, 26) : MethodName × Nat) ∈ lw_privs from List.mem_append_right _ (List.mem_append_right _ (List.mem_append_right _ (List.mem_append_left _ (List.mem_of_getElem? (i := 15) rfl))))), rfl⟩)) rfl
theorem js_X9_sides : Cond.selects RX9 yX9_sides yX9_sides ∈ jG := jg_1288
theorem js_X9_sidesOf : Cond.selects RX9 yX9_sidesOf yX9_sidesOf ∈ jG := jg_in (jps (List.mem_map.mpr ⟨(yX9_sidesOf, 26), (show ((yX9_sidesOf, 26) : MethodName × Nat) ∈ lw_privs from List.mem_append_right _ (List.mem_append_right _ (List.mem_append_left _ (List.mem_of_getElem? (i := 9) rfl)))), rfl⟩)) rfl
theorem js_X9_stands : Cond.selects RX9 yX9_stands yX9_stands ∈ jG := jg_1289
theorem js_X9_sum : Cond.selects RX9 yX9_sum yX9_sum ∈ jG := jg_in (jps (List.mem_map.mpr ⟨(yX9_sum, 26), (show ((yX9_sum, 26) : MethodName × Nat) ∈ lw_privs from List.mem_append_right _ (List.mem_append_right _ (List.mem_append_right _ (List.mem_append_right _ (List.mem_append_left _ (List.mem_of_getElem? (i := 7) rfl)))))), rfl⟩)) rfl
theorem js_X9_takes : Cond.selects RX9 yX9_takes yX9_takes ∈ jG := jg_in (jps (List.mem_map.mpr ⟨(yX9_takes, 26), (show ((yX9_takes, 26) : MethodName × Nat) ∈ lw_privs from List.mem_append_right _ (List.mem_append_right _ (List.mem_append_right _ (List.mem_append_right _ (List.mem_append_left _ (List.mem_of_getElem? (i := 12) rfl)))))), rfl⟩)) rfl
theorem js_X9_tell : Cond.selects RX9 yX9_tell yX9_tell ∈ jG := jg_1290
theorem js_X9_tells : Cond.selects RX9 yX9_tells yX9_tells ∈ jG := jg_in (jps (List.mem_map.mpr ⟨(yX9_tells, 26), (show ((yX9_tells, 26) : MethodName × Nat) ∈ lw_privs from List.mem_append_right _ (List.mem_append_right _ (List.mem_append_left _ (List.mem_of_getElem? (i := 7) rfl)))), rfl⟩)) rfl
theorem js_X9_text : Cond.selects RX9 yX9_text yX9_text ∈ jG := jg_1291
theorem js_X9_there : Cond.selects RX9 yX9_there yX9_there ∈ jG := jg_in (jps (List.mem_map.mpr ⟨(yX9_there, 26), (show ((yX9_there, 26) : MethodName × Nat) ∈ lw_privs from List.mem_append_right _ (List.mem_append_right _ (List.mem_append_right _ (List.mem_append_right _ (List.mem_append_right _ (List.mem_append_left _ (List.mem_of_getElem? (i := 12) rfl))))))), rfl⟩)) rfl
theorem js_X9_tick : Cond.selects RX9 yX9_tick yX9_tick ∈ jG := jg_1292
theorem js_X9_ticks : Cond.selects RX9 yX9_ticks yX9_ticks ∈ jG := jg_in (jps (List.mem_map.mpr ⟨(yX9_ticks, 26), (show ((yX9_ticks, 26) : MethodName × Nat) ∈ lw_privs from List.mem_append_right _ (List.mem_append_right _ (List.mem_append_right _ (List.mem_append_right _ (List.mem_append_left _ (List.mem_of_getElem? (i := 15) rfl)))))), rfl⟩)) rfl
theorem js_X9_told : Cond.selects RX9 yX9_told yX9_told ∈ jG := jg_1293
theorem js_X9_turn : Cond.selects RX9 yX9_turn yX9_turn ∈ jG := jg_1294
theorem js_X9_turns : Cond.selects RX9 yX9_turns yX9_turns ∈ jG := jg_in (jps (List.mem_map.mpr ⟨(yX9_turns, 26), (show ((yX9_turns, 26) : MethodName × Nat) ∈ lw_privs from List.mem_append_right _ (List.mem_append_right _ (List.mem_append_right _ (List.mem_append_left _ (List.mem_of_getElem? (i := 14) rfl))))), rfl⟩)) rfl
theorem js_X9_turnsFirst : Cond.selects RX9 yX9_turnsFirst yX9_turnsFirst ∈ jG := jg_in (jps (List.mem_map.mpr ⟨(yX9_turnsFirst, 26), (show ((yX9_turnsFirst, 26) : MethodName × Nat) ∈ lw_privs from List.mem_append_right _ (List.mem_append_right _ (List.mem_append_right _ (List.mem_append_right _ (List.mem_append_right _ (List.mem_append_left _ (List.mem_of_getElem? (i := 8) rfl))))))), rfl⟩)) rfl
theorem js_X9_untell : Cond.selects RX9 yX9_untell yX9_untell ∈ jG := jg_1295
theorem js_X9_vanish : Cond.selects RX9 yX9_vanish yX9_vanish ∈ jG := jg_1296
theorem js_X9_vanishes : Cond.selects RX9 yX9_vanishes yX9_vanishes ∈ jG := jg_in (jps (List.mem_map.mpr ⟨(yX9_vanishes, 26), (show ((yX9_vanishes, 26) : MethodName × Nat) ∈ lw_privs from List.mem_append_right _ (List.mem_append_right _ (List.mem_append_right _ (List.mem_append_right _ (List.mem_append_left _ (List.mem_of_getElem? (i := 1) rfl)))))), rfl⟩)) rfl
theorem js_X9_voice : Cond.selects RX9 yX9_voice yX9_voice ∈ jG := jg_1297
theorem js_X9_voiced : Cond.selects RX9 yX9_voiced yX9_voiced ∈ jG := jg_in (jps (List.mem_map.mpr ⟨(yX9_voiced, 26), (show ((yX9_voiced, 26) : MethodName × Nat) ∈ lw_privs from List.mem_append_right _ (List.mem_append_right _ (List.mem_append_right _ (List.mem_append_right _ (List.mem_append_right _ (List.mem_append_left _ (List.mem_of_getElem? (i := 13) rfl))))))), rfl⟩)) rfl
theorem js_X9_way : Cond.selects RX9 yX9_way yX9_way ∈ jG := jg_1298
theorem js_X9_worked : Cond.selects RX9 yX9_worked yX9_worked ∈ jG := jg_in (jps (List.mem_map.mpr ⟨(yX9_worked, 26), (show ((yX9_worked, 26) : MethodName × Nat) ∈ lw_privs from List.mem_append_right _ (List.mem_append_right _ (List.mem_append_right _ (List.mem_append_left _ (List.mem_of_getElem? (i := 2) rfl))))), rfl⟩)) rfl
theorem js_J0_charAt_5068e : Cond.selects RJ0 yJ0_charAt_5068e yJ0_charAt_5068e ∈ jG := jg_1299
theorem js_J0_coder_7d493 : Cond.selects RJ0 yJ0_coder_7d493 yJ0_coder_7d493 ∈ jG := jg_1300
theorem js_J0_indexOf_0f7a4 : Cond.selects RJ0 yJ0_indexOf_0f7a4 yJ0_indexOf_0f7a4 ∈ jG := jg_1301
theorem js_J0_indexOf_7cf53 : Cond.selects RJ0 yJ0_indexOf_7cf53 yJ0_indexOf_7cf53 ∈ jG := jg_1302
theorem js_J0_isLatin1_aae02 : Cond.selects RJ0 yJ0_isLatin1_aae02 yJ0_isLatin1_aae02 ∈ jG := jg_1303
theorem js_J0_length_8abf5 : Cond.selects RJ0 yJ0_length_8abf5 yJ0_length_8abf5 ∈ jG := jg_1304
theorem jmh_0 : RX0 ≠ "java/lang/invoke/MethodHandle" := by decide
theorem jmv_0 : RX0 ≠ "java/lang/invoke/VarHandle" := by decide
theorem jpd_0 : (parseMethodDescriptor "()V").map (fun d => d.parameters.length) = some 0 := by decide +kernel
theorem jpd_1 : (parseMethodDescriptor "(LFoamHead$Foam;)V").map (fun d => d.parameters.length) = some 1 := by decide +kernel
theorem jpd_2 : (parseMethodDescriptor "(III)V").map (fun d => d.parameters.length) = some 3 := by decide +kernel
theorem jpd_3 : (parseMethodDescriptor "(IIII)V").map (fun d => d.parameters.length) = some 4 := by decide +kernel
theorem jpd_4 : (parseMethodDescriptor "(I)Z").map (fun d => d.parameters.length) = some 1 := by decide +kernel
theorem jpd_5 : (parseMethodDescriptor "()I").map (fun d => d.parameters.length) = some 0 := by decide +kernel
theorem jpd_6 : (parseMethodDescriptor "([I)I").map (fun d => d.parameters.length) = some 1 := by decide +kernel
theorem jpd_7 : (parseMethodDescriptor "(I)I").map (fun d => d.parameters.length) = some 1 := by decide +kernel
theorem jpd_8 : (parseMethodDescriptor "(II)I").map (fun d => d.parameters.length) = some 2 := by decide +kernel
theorem jpd_9 : (parseMethodDescriptor "(II)Z").map (fun d => d.parameters.length) = some 2 := by decide +kernel
theorem jpd_10 : (parseMethodDescriptor "(II)V").map (fun d => d.parameters.length) = some 2 := by decide +kernel
theorem jpd_11 : (parseMethodDescriptor "(I)V").map (fun d => d.parameters.length) = some 1 := by decide +kernel
theorem jmh_1 : RX1 ≠ "java/lang/invoke/MethodHandle" := by decide
theorem jmv_1 : RX1 ≠ "java/lang/invoke/VarHandle" := by decide
theorem jmh_2 : RX2 ≠ "java/lang/invoke/MethodHandle" := by decide
theorem jmv_2 : RX2 ≠ "java/lang/invoke/VarHandle" := by decide
theorem jpd_12 : (parseMethodDescriptor "(I)Ljava/lang/String;").map (fun d => d.parameters.length) = some 1 := by decide +kernel
theorem jpd_13 : (parseMethodDescriptor "([III)Z").map (fun d => d.parameters.length) = some 3 := by decide +kernel
theorem jpd_14 : (parseMethodDescriptor "(C)Z").map (fun d => d.parameters.length) = some 1 := by decide +kernel
theorem jmh_3 : RX3 ≠ "java/lang/invoke/MethodHandle" := by decide
theorem jmv_3 : RX3 ≠ "java/lang/invoke/VarHandle" := by decide
theorem jpd_15 : (parseMethodDescriptor "(LFoamHead$Search;III)Z").map (fun d => d.parameters.length) = some 4 := by decide +kernel
theorem jpd_16 : (parseMethodDescriptor "(II[I)I").map (fun d => d.parameters.length) = some 3 := by decide +kernel
theorem jmh_4 : RX4 ≠ "java/lang/invoke/MethodHandle" := by decide
theorem jmv_4 : RX4 ≠ "java/lang/invoke/VarHandle" := by decide
theorem jpd_17 : (parseMethodDescriptor "(III)Z").map (fun d => d.parameters.length) = some 3 := by decide +kernel
theorem jmh_5 : RX5 ≠ "java/lang/invoke/MethodHandle" := by decide
theorem jmv_5 : RX5 ≠ "java/lang/invoke/VarHandle" := by decide
theorem jpd_18 : (parseMethodDescriptor "(C)I").map (fun d => d.parameters.length) = some 1 := by decide +kernel
theorem jpd_19 : (parseMethodDescriptor "()Z").map (fun d => d.parameters.length) = some 0 := by decide +kernel
theorem jpd_20 : (parseMethodDescriptor "([II)V").map (fun d => d.parameters.length) = some 2 := by decide +kernel
theorem jpd_21 : (parseMethodDescriptor "(LFoamHead$Text;)V").map (fun d => d.parameters.length) = some 1 := by decide +kernel
theorem jpd_22 : (parseMethodDescriptor "(I[I)I").map (fun d => d.parameters.length) = some 2 := by decide +kernel
theorem jpd_23 : (parseMethodDescriptor "(CII)I").map (fun d => d.parameters.length) = some 3 := by decide +kernel
theorem jmh_6 : RX6 ≠ "java/lang/invoke/MethodHandle" := by decide
theorem jmv_6 : RX6 ≠ "java/lang/invoke/VarHandle" := by decide
theorem jpd_24 : (parseMethodDescriptor "(LFoamHead$Foam;III)I").map (fun d => d.parameters.length) = some 4 := by decide +kernel
theorem jpd_25 : (parseMethodDescriptor "(IIII)I").map (fun d => d.parameters.length) = some 4 := by decide +kernel
theorem jmh_7 : RX7 ≠ "java/lang/invoke/MethodHandle" := by decide
theorem jmv_7 : RX7 ≠ "java/lang/invoke/VarHandle" := by decide
theorem jpd_26 : (parseMethodDescriptor "(LFoamHead$World;)V").map (fun d => d.parameters.length) = some 1 := by decide +kernel
theorem jpd_27 : (parseMethodDescriptor "(JI)V").map (fun d => d.parameters.length) = some 2 := by decide +kernel
theorem jpd_28 : (parseMethodDescriptor "(IIIII)V").map (fun d => d.parameters.length) = some 5 := by decide +kernel
theorem jmh_8 : RX8 ≠ "java/lang/invoke/MethodHandle" := by decide
theorem jmv_8 : RX8 ≠ "java/lang/invoke/VarHandle" := by decide
theorem jpd_29 : (parseMethodDescriptor "(III)I").map (fun d => d.parameters.length) = some 3 := by decide +kernel
theorem jpd_30 : (parseMethodDescriptor "(JI)I").map (fun d => d.parameters.length) = some 2 := by decide +kernel
theorem jpd_31 : (parseMethodDescriptor "(IIIII)I").map (fun d => d.parameters.length) = some 5 := by decide +kernel
theorem jmh_9 : RX9 ≠ "java/lang/invoke/MethodHandle" := by decide
theorem jmv_9 : RX9 ≠ "java/lang/invoke/VarHandle" := by decide
theorem jpd_32 : (parseMethodDescriptor "([I[I)V").map (fun d => d.parameters.length) = some 2 := by decide +kernel
theorem jpd_33 : (parseMethodDescriptor "(IIIIII)I").map (fun d => d.parameters.length) = some 6 := by decide +kernel
theorem jmh_10 : RJ6 ≠ "java/lang/invoke/MethodHandle" := by decide
theorem jmv_10 : RJ6 ≠ "java/lang/invoke/VarHandle" := by decide
theorem jmh_11 : RJ9 ≠ "java/lang/invoke/MethodHandle" := by decide
theorem jmv_11 : RJ9 ≠ "java/lang/invoke/VarHandle" := by decide
theorem jpd_34 : (parseMethodDescriptor "(JJ)J").map (fun d => d.parameters.length) = some 2 := by decide +kernel
theorem jmh_12 : RJ7 ≠ "java/lang/invoke/MethodHandle" := by decide
theorem jmv_12 : RJ7 ≠ "java/lang/invoke/VarHandle" := by decide
theorem jmh_13 : RJ0 ≠ "java/lang/invoke/MethodHandle" := by decide
theorem jmv_13 : RJ0 ≠ "java/lang/invoke/VarHandle" := by decide
theorem jpd_35 : (parseMethodDescriptor "(I)C").map (fun d => d.parameters.length) = some 1 := by decide +kernel
theorem jpd_36 : (parseMethodDescriptor "()B").map (fun d => d.parameters.length) = some 0 := by decide +kernel
theorem jmh_14 : RJ1 ≠ "java/lang/invoke/MethodHandle" := by decide
theorem jmv_14 : RJ1 ≠ "java/lang/invoke/VarHandle" := by decide
theorem jpd_37 : (parseMethodDescriptor "([BI)C").map (fun d => d.parameters.length) = some 2 := by decide +kernel
theorem jpd_38 : (parseMethodDescriptor "([BIII)I").map (fun d => d.parameters.length) = some 4 := by decide +kernel
theorem jmh_15 : RJ3 ≠ "java/lang/invoke/MethodHandle" := by decide
theorem jmv_15 : RJ3 ≠ "java/lang/invoke/VarHandle" := by decide
theorem jpd_39 : (parseMethodDescriptor "(IILjava/util/function/BiFunction;)I").map (fun d => d.parameters.length) = some 3 := by decide +kernel
theorem jb_X0_init : jcalB jG jq_X0_init 0 := jcB jg_806 jg_177 jmh_0 jmv_0 jpd_0 (by decide)
theorem jb_X0_copyFrom : jcalB jG jq_X0_copyFrom 1 := jcB jg_807 jg_177 jmh_0 jmv_0 jpd_1 (by decide)
theorem jb_X0_make : jcalB jG jq_X0_make 3 := jcB jg_808 jg_177 jmh_0 jmv_0 jpd_2 (by decide)
theorem jb_X0_makeRing : jcalB jG jq_X0_makeRing 4 := jcB jg_809 jg_177 jmh_0 jmv_0 jpd_3 (by decide)
theorem jb_X0_has : jcalB jG jq_X0_has 1 := jcB jg_810 jg_177 jmh_0 jmv_0 jpd_4 (by decide)
theorem jb_X0_howMany : jcalB jG jq_X0_howMany 0 := jcB jg_811 jg_177 jmh_0 jmv_0 jpd_5 (by decide)
theorem jb_X0_together : jcalB jG jq_X0_together 1 := jcB jg_812 jg_177 jmh_0 jmv_0 jpd_6 (by decide)
theorem jb_X0_sidesOf : jcalB jG jq_X0_sidesOf 1 := jcB jg_813 jg_177 jmh_0 jmv_0 jpd_7 (by decide)
theorem jb_X0_at : jcalB jG jq_X0_at 2 := jcB jg_814 jg_177 jmh_0 jmv_0 jpd_8 (by decide)
theorem jb_X0_placeOf : jcalB jG jq_X0_placeOf 2 := jcB jg_815 jg_177 jmh_0 jmv_0 jpd_8 (by decide)
theorem jb_X0_toldAt : jcalB jG jq_X0_toldAt 2 := jcB jg_816 jg_177 jmh_0 jmv_0 jpd_8 (by decide)
theorem jb_X0_glasses : jcalB jG jq_X0_glasses 1 := jcB jg_817 jg_177 jmh_0 jmv_0 jpd_7 (by decide)
theorem jb_X0_bitsBeside : jcalB jG jq_X0_bitsBeside 1 := jcB jg_818 jg_177 jmh_0 jmv_0 jpd_7 (by decide)
theorem jb_X0_sidesBeside : jcalB jG jq_X0_sidesBeside 1 := jcB jg_819 jg_177 jmh_0 jmv_0 jpd_7 (by decide)
theorem jb_X0_walls : jcalB jG jq_X0_walls 0 := jcB jg_820 jg_177 jmh_0 jmv_0 jpd_5 (by decide)
theorem jb_X0_isWall : jcalB jG jq_X0_isWall 2 := jcB jg_821 jg_177 jmh_0 jmv_0 jpd_9 (by decide)
theorem jb_X0_aheadOf : jcalB jG jq_X0_aheadOf 2 := jcB jg_822 jg_177 jmh_0 jmv_0 jpd_8 (by decide)
theorem jb_X0_behind : jcalB jG jq_X0_behind 2 := jcB jg_823 jg_177 jmh_0 jmv_0 jpd_8 (by decide)
theorem jb_X0_canLoseOne : jcalB jG jq_X0_canLoseOne 1 := jcB jg_824 jg_177 jmh_0 jmv_0 jpd_4 (by decide)
theorem jb_X0_touch : jcalB jG jq_X0_touch 2 := jcB jg_825 jg_177 jmh_0 jmv_0 jpd_9 (by decide)
theorem jb_X0_canTurn : jcalB jG jq_X0_canTurn 2 := jcB jg_826 jg_177 jmh_0 jmv_0 jpd_9 (by decide)
theorem jb_X0_canVanish : jcalB jG jq_X0_canVanish 1 := jcB jg_827 jg_177 jmh_0 jmv_0 jpd_4 (by decide)
theorem jb_X0_canBurst : jcalB jG jq_X0_canBurst 2 := jcB jg_828 jg_177 jmh_0 jmv_0 jpd_9 (by decide)
theorem jb_X0_turnOver : jcalB jG jq_X0_turnOver 2 := jcB jg_829 jg_177 jmh_0 jmv_0 jpd_10 (by decide)
theorem jb_X0_lose : jcalB jG jq_X0_lose 1 := jcB jg_830 jg_177 jmh_0 jmv_0 jpd_11 (by decide)
theorem jb_X0_unite : jcalB jG jq_X0_unite 2 := jcB jg_831 jg_177 jmh_0 jmv_0 jpd_10 (by decide)
theorem jb_X0_joinRings : jcalB jG jq_X0_joinRings 2 := jcB jg_832 jg_177 jmh_0 jmv_0 jpd_8 (by decide)
theorem jb_X0_standForBoth : jcalB jG jq_X0_standForBoth 3 := jcB jg_833 jg_177 jmh_0 jmv_0 jpd_2 (by decide)
theorem jb_X0_bury : jcalB jG jq_X0_bury 1 := jcB jg_834 jg_177 jmh_0 jmv_0 jpd_11 (by decide)
theorem jb_X0_takeOut : jcalB jG jq_X0_takeOut 2 := jcB jg_835 jg_177 jmh_0 jmv_0 jpd_10 (by decide)
theorem jb_X0_putBehind : jcalB jG jq_X0_putBehind 3 := jcB jg_836 jg_177 jmh_0 jmv_0 jpd_2 (by decide)
theorem jb_X1_isOne : jcalB jG jq_X1_isOne 1 := jcB jg_837 jg_838 jmh_1 jmv_1 jpd_4 (by decide)
theorem jb_X1_above : jcalB jG jq_X1_above 1 := jcB jg_839 jg_838 jmh_1 jmv_1 jpd_7 (by decide)
theorem jb_X1_isUnder : jcalB jG jq_X1_isUnder 2 := jcB jg_840 jg_838 jmh_1 jmv_1 jpd_9 (by decide)
theorem jb_X1_lets : jcalB jG jq_X1_lets 1 := jcB jg_841 jg_838 jmh_1 jmv_1 jpd_7 (by decide)
theorem jb_X1_dry : jcalB jG jq_X1_dry 2 := jcB jg_842 jg_838 jmh_1 jmv_1 jpd_8 (by decide)
theorem jb_X2_init : jcalB jG jq_X2_init 0 := jcB jg_843 jg_296 jmh_2 jmv_2 jpd_0 (by decide)
theorem jb_X2_namesOf : jcalB jG jq_X2_namesOf 1 := jcB jg_844 jg_296 jmh_2 jmv_2 jpd_12 (by decide)
theorem jb_X2_read : jcalB jG jq_X2_read 3 := jcB jg_845 jg_296 jmh_2 jmv_2 jpd_13 (by decide)
theorem jb_X2_next : jcalB jG jq_X2_next 0 := jcB jg_846 jg_296 jmh_2 jmv_2 jpd_5 (by decide)
theorem jb_X2_nextIs : jcalB jG jq_X2_nextIs 1 := jcB jg_847 jg_296 jmh_2 jmv_2 jpd_14 (by decide)
theorem jb_X2_note : jcalB jG jq_X2_note 1 := jcB jg_848 jg_296 jmh_2 jmv_2 jpd_11 (by decide)
theorem jb_X2_either : jcalB jG jq_X2_either 1 := jcB jg_849 jg_296 jmh_2 jmv_2 jpd_11 (by decide)
theorem jb_X2_both : jcalB jG jq_X2_both 1 := jcB jg_850 jg_296 jmh_2 jmv_2 jpd_11 (by decide)
theorem jb_X2_compared : jcalB jG jq_X2_compared 1 := jcB jg_851 jg_296 jmh_2 jmv_2 jpd_11 (by decide)
theorem jb_X2_sum : jcalB jG jq_X2_sum 1 := jcB jg_852 jg_296 jmh_2 jmv_2 jpd_11 (by decide)
theorem jb_X2_product : jcalB jG jq_X2_product 1 := jcB jg_853 jg_296 jmh_2 jmv_2 jpd_11 (by decide)
theorem jb_X2_single : jcalB jG jq_X2_single 1 := jcB jg_854 jg_296 jmh_2 jmv_2 jpd_11 (by decide)
theorem jb_X2_close : jcalB jG jq_X2_close 0 := jcB jg_855 jg_296 jmh_2 jmv_2 jpd_0 (by decide)
theorem jb_X2_isDigit : jcalB jG jq_X2_isDigit 1 := jcB jg_856 jg_296 jmh_2 jmv_2 jpd_4 (by decide)
theorem jb_X2_number : jcalB jG jq_X2_number 0 := jcB jg_857 jg_296 jmh_2 jmv_2 jpd_0 (by decide)
theorem jb_X3_init : jcalB jG jq_X3_init 0 := jcB jg_858 jg_301 jmh_3 jmv_3 jpd_0 (by decide)
theorem jb_X3_look : jcalB jG jq_X3_look 1 := jcB jg_859 jg_301 jmh_3 jmv_3 jpd_1 (by decide)
theorem jb_X3_wallsBetween : jcalB jG jq_X3_wallsBetween 2 := jcB jg_860 jg_301 jmh_3 jmv_3 jpd_8 (by decide)
theorem jb_X3_besideAny : jcalB jG jq_X3_besideAny 1 := jcB jg_861 jg_301 jmh_3 jmv_3 jpd_7 (by decide)
theorem jb_X3_canPaint : jcalB jG jq_X3_canPaint 1 := jcB jg_862 jg_301 jmh_3 jmv_3 jpd_4 (by decide)
theorem jb_X3_paintFrom : jcalB jG jq_X3_paintFrom 4 := jcB jg_863 jg_301 jmh_3 jmv_3 jpd_15 (by decide)
theorem jb_X3_mostApart : jcalB jG jq_X3_mostApart 0 := jcB jg_864 jg_301 jmh_3 jmv_3 jpd_5 (by decide)
theorem jb_X3_apartIn : jcalB jG jq_X3_apartIn 3 := jcB jg_865 jg_301 jmh_3 jmv_3 jpd_16 (by decide)
theorem jb_X4_init : jcalB jG jq_X4_init 0 := jcB jg_866 jg_311 jmh_4 jmv_4 jpd_0 (by decide)
theorem jb_X4_isOne : jcalB jG jq_X4_isOne 1 := jcB jg_867 jg_311 jmh_4 jmv_4 jpd_4 (by decide)
theorem jb_X4_lay : jcalB jG jq_X4_lay 3 := jcB jg_868 jg_311 jmh_4 jmv_4 jpd_2 (by decide)
theorem jb_X4_set : jcalB jG jq_X4_set 3 := jcB jg_869 jg_311 jmh_4 jmv_4 jpd_2 (by decide)
theorem jb_X4_haveRun : jcalB jG jq_X4_haveRun 3 := jcB jg_870 jg_311 jmh_4 jmv_4 jpd_17 (by decide)
theorem jb_X5_init : jcalB jG jq_X5_init 0 := jcB jg_871 jg_182 jmh_5 jmv_5 jpd_0 (by decide)
theorem jb_X5_ofName : jcalB jG jq_X5_ofName 1 := jcB jg_872 jg_182 jmh_5 jmv_5 jpd_7 (by decide)
theorem jb_X5_ofSign : jcalB jG jq_X5_ofSign 1 := jcB jg_873 jg_182 jmh_5 jmv_5 jpd_18 (by decide)
theorem jb_X5_isTold : jcalB jG jq_X5_isTold 0 := jcB jg_874 jg_182 jmh_5 jmv_5 jpd_19 (by decide)
theorem jb_X5_take : jcalB jG jq_X5_take 2 := jcB jg_875 jg_182 jmh_5 jmv_5 jpd_20 (by decide)
theorem jb_X5_copyFrom : jcalB jG jq_X5_copyFrom 1 := jcB jg_876 jg_182 jmh_5 jmv_5 jpd_21 (by decide)
theorem jb_X5_value : jcalB jG jq_X5_value 1 := jcB jg_877 jg_182 jmh_5 jmv_5 jpd_6 (by decide)
theorem jb_X5_plain : jcalB jG jq_X5_plain 2 := jcB jg_878 jg_182 jmh_5 jmv_5 jpd_22 (by decide)
theorem jb_X5_worked : jcalB jG jq_X5_worked 3 := jcB jg_879 jg_182 jmh_5 jmv_5 jpd_23 (by decide)
theorem jb_X6_init : jcalB jG jq_X6_init 0 := jcB jg_880 jg_306 jmh_6 jmv_6 jpd_0 (by decide)
theorem jb_X6_answer : jcalB jG jq_X6_answer 4 := jcB jg_881 jg_306 jmh_6 jmv_6 jpd_24 (by decide)
theorem jb_X6_keepTrace : jcalB jG jq_X6_keepTrace 0 := jcB jg_882 jg_306 jmh_6 jmv_6 jpd_0 (by decide)
theorem jb_X6_bodyAt : jcalB jG jq_X6_bodyAt 2 := jcB jg_883 jg_306 jmh_6 jmv_6 jpd_8 (by decide)
theorem jb_X6_say : jcalB jG jq_X6_say 4 := jcB jg_884 jg_306 jmh_6 jmv_6 jpd_25 (by decide)
theorem jb_X6_speak : jcalB jG jq_X6_speak 4 := jcB jg_885 jg_306 jmh_6 jmv_6 jpd_25 (by decide)
theorem jb_X6_parting : jcalB jG jq_X6_parting 1 := jcB jg_886 jg_306 jmh_6 jmv_6 jpd_7 (by decide)
theorem jb_X7_init : jcalB jG jq_X7_init 0 := jcB jg_887 jg_289 jmh_7 jmv_7 jpd_0 (by decide)
theorem jb_X7_copyFrom : jcalB jG jq_X7_copyFrom 1 := jcB jg_888 jg_289 jmh_7 jmv_7 jpd_26 (by decide)
theorem jb_X7_startAnew : jcalB jG jq_X7_startAnew 3 := jcB jg_889 jg_289 jmh_7 jmv_7 jpd_2 (by decide)
theorem jb_X7_takeBytes : jcalB jG jq_X7_takeBytes 2 := jcB jg_890 jg_289 jmh_7 jmv_7 jpd_27 (by decide)
theorem jb_X7_dry : jcalB jG jq_X7_dry 1 := jcB jg_891 jg_289 jmh_7 jmv_7 jpd_7 (by decide)
theorem jb_X7_law : jcalB jG jq_X7_law 2 := jcB jg_892 jg_289 jmh_7 jmv_7 jpd_8 (by decide)
theorem jb_X7_burstOf : jcalB jG jq_X7_burstOf 2 := jcB jg_893 jg_289 jmh_7 jmv_7 jpd_8 (by decide)
theorem jb_X7_mark : jcalB jG jq_X7_mark 1 := jcB jg_894 jg_289 jmh_7 jmv_7 jpd_7 (by decide)
theorem jb_X7_name : jcalB jG jq_X7_name 5 := jcB jg_895 jg_289 jmh_7 jmv_7 jpd_28 (by decide)
theorem jb_X7_passing : jcalB jG jq_X7_passing 2 := jcB jg_896 jg_289 jmh_7 jmv_7 jpd_8 (by decide)
theorem jb_X7_goOn : jcalB jG jq_X7_goOn 0 := jcB jg_897 jg_289 jmh_7 jmv_7 jpd_0 (by decide)
theorem jb_X7_passGas : jcalB jG jq_X7_passGas 0 := jcB jg_898 jg_289 jmh_7 jmv_7 jpd_0 (by decide)
theorem jb_X7_give : jcalB jG jq_X7_give 3 := jcB jg_899 jg_289 jmh_7 jmv_7 jpd_2 (by decide)
theorem jb_X7_runDown : jcalB jG jq_X7_runDown 0 := jcB jg_900 jg_289 jmh_7 jmv_7 jpd_0 (by decide)
theorem jb_X7_giveWater : jcalB jG jq_X7_giveWater 1 := jcB jg_901 jg_289 jmh_7 jmv_7 jpd_11 (by decide)
theorem jb_X7_bitsBelow : jcalB jG jq_X7_bitsBelow 1 := jcB jg_902 jg_289 jmh_7 jmv_7 jpd_7 (by decide)
theorem jb_X7_drain : jcalB jG jq_X7_drain 1 := jcB jg_903 jg_289 jmh_7 jmv_7 jpd_11 (by decide)
theorem jb_X7_burstDry : jcalB jG jq_X7_burstDry 0 := jcB jg_904 jg_289 jmh_7 jmv_7 jpd_0 (by decide)
theorem jb_X7_drawn : jcalB jG jq_X7_drawn 0 := jcB jg_905 jg_289 jmh_7 jmv_7 jpd_19 (by decide)
theorem jb_X7_loseEmpty : jcalB jG jq_X7_loseEmpty 0 := jcB jg_906 jg_289 jmh_7 jmv_7 jpd_0 (by decide)
theorem jb_X7_turnFirst : jcalB jG jq_X7_turnFirst 1 := jcB jg_907 jg_289 jmh_7 jmv_7 jpd_11 (by decide)
theorem jb_X8_init : jcalB jG jq_X8_init 0 := jcB jg_908 jg_633 jmh_8 jmv_8 jpd_0 (by decide)
theorem jb_X8_no : jcalB jG jq_X8_no 1 := jcB jg_909 jg_633 jmh_8 jmv_8 jpd_7 (by decide)
theorem jb_X8_within : jcalB jG jq_X8_within 3 := jcB jg_910 jg_633 jmh_8 jmv_8 jpd_17 (by decide)
theorem jb_X8_foam : jcalB jG jq_X8_foam 3 := jcB jg_911 jg_633 jmh_8 jmv_8 jpd_29 (by decide)
theorem jb_X8_bubbleIs : jcalB jG jq_X8_bubbleIs 2 := jcB jg_912 jg_633 jmh_8 jmv_8 jpd_8 (by decide)
theorem jb_X8_as : jcalB jG jq_X8_as 2 := jcB jg_913 jg_633 jmh_8 jmv_8 jpd_8 (by decide)
theorem jb_X8_become : jcalB jG jq_X8_become 2 := jcB jg_914 jg_633 jmh_8 jmv_8 jpd_8 (by decide)
theorem jb_X8_fill : jcalB jG jq_X8_fill 3 := jcB jg_915 jg_633 jmh_8 jmv_8 jpd_29 (by decide)
theorem jb_X8_ring : jcalB jG jq_X8_ring 2 := jcB jg_916 jg_633 jmh_8 jmv_8 jpd_8 (by decide)
theorem jb_X8_beside : jcalB jG jq_X8_beside 2 := jcB jg_917 jg_633 jmh_8 jmv_8 jpd_8 (by decide)
theorem jb_X8_end : jcalB jG jq_X8_end 3 := jcB jg_918 jg_633 jmh_8 jmv_8 jpd_29 (by decide)
theorem jb_X8_can : jcalB jG jq_X8_can 3 := jcB jg_919 jg_633 jmh_8 jmv_8 jpd_29 (by decide)
theorem jb_X8_turn : jcalB jG jq_X8_turn 2 := jcB jg_920 jg_633 jmh_8 jmv_8 jpd_8 (by decide)
theorem jb_X8_vanish : jcalB jG jq_X8_vanish 1 := jcB jg_921 jg_633 jmh_8 jmv_8 jpd_7 (by decide)
theorem jb_X8_burst : jcalB jG jq_X8_burst 2 := jcB jg_922 jg_633 jmh_8 jmv_8 jpd_8 (by decide)
theorem jb_X8_areBubbles : jcalB jG jq_X8_areBubbles 2 := jcB jg_923 jg_633 jmh_8 jmv_8 jpd_9 (by decide)
theorem jb_X8_feed : jcalB jG jq_X8_feed 2 := jcB jg_924 jg_633 jmh_8 jmv_8 jpd_30 (by decide)
theorem jb_X8_text : jcalB jG jq_X8_text 1 := jcB jg_925 jg_633 jmh_8 jmv_8 jpd_7 (by decide)
theorem jb_X8_untell : jcalB jG jq_X8_untell 1 := jcB jg_926 jg_633 jmh_8 jmv_8 jpd_7 (by decide)
theorem jb_X8_rule : jcalB jG jq_X8_rule 2 := jcB jg_927 jg_633 jmh_8 jmv_8 jpd_8 (by decide)
theorem jb_X8_passes : jcalB jG jq_X8_passes 2 := jcB jg_928 jg_633 jmh_8 jmv_8 jpd_8 (by decide)
theorem jb_X8_tick : jcalB jG jq_X8_tick 1 := jcB jg_929 jg_633 jmh_8 jmv_8 jpd_7 (by decide)
theorem jb_X8_stands : jcalB jG jq_X8_stands 2 := jcB jg_930 jg_633 jmh_8 jmv_8 jpd_8 (by decide)
theorem jb_X8_seed : jcalB jG jq_X8_seed 1 := jcB jg_931 jg_633 jmh_8 jmv_8 jpd_7 (by decide)
theorem jb_X8_all : jcalB jG jq_X8_all 1 := jcB jg_932 jg_633 jmh_8 jmv_8 jpd_7 (by decide)
theorem jb_X8_pace : jcalB jG jq_X8_pace 1 := jcB jg_933 jg_633 jmh_8 jmv_8 jpd_7 (by decide)
theorem jb_X8_sides : jcalB jG jq_X8_sides 1 := jcB jg_934 jg_633 jmh_8 jmv_8 jpd_7 (by decide)
theorem jb_X8_around : jcalB jG jq_X8_around 1 := jcB jg_935 jg_633 jmh_8 jmv_8 jpd_7 (by decide)
theorem jb_X8_first : jcalB jG jq_X8_first 1 := jcB jg_936 jg_633 jmh_8 jmv_8 jpd_7 (by decide)
theorem jb_X8_way : jcalB jG jq_X8_way 2 := jcB jg_937 jg_633 jmh_8 jmv_8 jpd_8 (by decide)
theorem jb_X8_colour : jcalB jG jq_X8_colour 2 := jcB jg_938 jg_633 jmh_8 jmv_8 jpd_8 (by decide)
theorem jb_X8_apart : jcalB jG jq_X8_apart 1 := jcB jg_939 jg_633 jmh_8 jmv_8 jpd_7 (by decide)
theorem jb_X8_marked : jcalB jG jq_X8_marked 1 := jcB jg_940 jg_633 jmh_8 jmv_8 jpd_7 (by decide)
theorem jb_X8_voice : jcalB jG jq_X8_voice 3 := jcB jg_941 jg_633 jmh_8 jmv_8 jpd_29 (by decide)
theorem jb_X8_body : jcalB jG jq_X8_body 1 := jcB jg_942 jg_633 jmh_8 jmv_8 jpd_7 (by decide)
theorem jb_X8_sheet : jcalB jG jq_X8_sheet 3 := jcB jg_943 jg_633 jmh_8 jmv_8 jpd_29 (by decide)
theorem jb_X8_put : jcalB jG jq_X8_put 3 := jcB jg_944 jg_633 jmh_8 jmv_8 jpd_29 (by decide)
theorem jb_X8_move : jcalB jG jq_X8_move 5 := jcB jg_945 jg_633 jmh_8 jmv_8 jpd_31 (by decide)
theorem jb_X8_gases : jcalB jG jq_X8_gases 1 := jcB jg_946 jg_633 jmh_8 jmv_8 jpd_7 (by decide)
theorem jb_X8_image : jcalB jG jq_X8_image 0 := jcB jg_947 jg_633 jmh_8 jmv_8 jpd_5 (by decide)
theorem jb_X8_restore : jcalB jG jq_X8_restore 0 := jcB jg_948 jg_633 jmh_8 jmv_8 jpd_5 (by decide)
theorem jb_X8_tell : jcalB jG jq_X8_tell 1 := jcB jg_949 jg_633 jmh_8 jmv_8 jpd_7 (by decide)
theorem jb_X8_check : jcalB jG jq_X8_check 1 := jcB jg_950 jg_633 jmh_8 jmv_8 jpd_7 (by decide)
theorem jb_X8_count : jcalB jG jq_X8_count 1 := jcB jg_951 jg_633 jmh_8 jmv_8 jpd_7 (by decide)
theorem jb_X8_told : jcalB jG jq_X8_told 1 := jcB jg_952 jg_633 jmh_8 jmv_8 jpd_7 (by decide)
theorem jb_X9_init : jcalB jG jq_X9_init 0 := jcB jg_953 jg_638 jmh_9 jmv_9 jpd_0 (by decide)
theorem jb_X9_finding : jcalB jG jq_X9_finding 1 := jcB jg_954 jg_638 jmh_9 jmv_9 jpd_7 (by decide)
theorem jb_X9_within : jcalB jG jq_X9_within 3 := jcB jg_955 jg_638 jmh_9 jmv_9 jpd_17 (by decide)
theorem jb_X9_has : jcalB jG jq_X9_has 2 := jcB jg_956 jg_638 jmh_9 jmv_9 jpd_9 (by decide)
theorem jb_X9_copy : jcalB jG jq_X9_copy 2 := jcB jg_957 jg_638 jmh_9 jmv_9 jpd_32 (by decide)
theorem jb_X9_comes : jcalB jG jq_X9_comes 2 := jcB jg_958 jg_638 jmh_9 jmv_9 jpd_8 (by decide)
theorem jb_X9_of : jcalB jG jq_X9_of 2 := jcB jg_959 jg_638 jmh_9 jmv_9 jpd_8 (by decide)
theorem jb_X9_tells : jcalB jG jq_X9_tells 3 := jcB jg_960 jg_638 jmh_9 jmv_9 jpd_2 (by decide)
theorem jb_X9_is : jcalB jG jq_X9_is 1 := jcB jg_961 jg_638 jmh_9 jmv_9 jpd_4 (by decide)
theorem jb_X9_sidesOf : jcalB jG jq_X9_sidesOf 1 := jcB jg_962 jg_638 jmh_9 jmv_9 jpd_7 (by decide)
theorem jb_X9_at : jcalB jG jq_X9_at 2 := jcB jg_963 jg_638 jmh_9 jmv_9 jpd_8 (by decide)
theorem jb_X9_placeIn : jcalB jG jq_X9_placeIn 2 := jcB jg_964 jg_638 jmh_9 jmv_9 jpd_8 (by decide)
theorem jb_X9_opens : jcalB jG jq_X9_opens 3 := jcB jg_965 jg_638 jmh_9 jmv_9 jpd_2 (by decide)
theorem jb_X9_shuts : jcalB jG jq_X9_shuts 2 := jcB jg_966 jg_638 jmh_9 jmv_9 jpd_10 (by decide)
theorem jb_X9_grows : jcalB jG jq_X9_grows 2 := jcB jg_967 jg_638 jmh_9 jmv_9 jpd_10 (by decide)
theorem jb_X9_foam : jcalB jG jq_X9_foam 3 := jcB jg_968 jg_638 jmh_9 jmv_9 jpd_29 (by decide)
theorem jb_X9_placed : jcalB jG jq_X9_placed 4 := jcB jg_969 jg_638 jmh_9 jmv_9 jpd_25 (by decide)
theorem jb_X9_above : jcalB jG jq_X9_above 1 := jcB jg_970 jg_638 jmh_9 jmv_9 jpd_7 (by decide)
theorem jb_X9_letsOf : jcalB jG jq_X9_letsOf 1 := jcB jg_971 jg_638 jmh_9 jmv_9 jpd_7 (by decide)
theorem jb_X9_dryOf : jcalB jG jq_X9_dryOf 1 := jcB jg_972 jg_638 jmh_9 jmv_9 jpd_7 (by decide)
theorem jb_X9_glassesOf : jcalB jG jq_X9_glassesOf 1 := jcB jg_973 jg_638 jmh_9 jmv_9 jpd_7 (by decide)
theorem jb_X9_markOf : jcalB jG jq_X9_markOf 1 := jcB jg_974 jg_638 jmh_9 jmv_9 jpd_7 (by decide)
theorem jb_X9_bubbleIs : jcalB jG jq_X9_bubbleIs 2 := jcB jg_975 jg_638 jmh_9 jmv_9 jpd_8 (by decide)
theorem jb_X9_as : jcalB jG jq_X9_as 2 := jcB jg_976 jg_638 jmh_9 jmv_9 jpd_8 (by decide)
theorem jb_X9_become : jcalB jG jq_X9_become 2 := jcB jg_977 jg_638 jmh_9 jmv_9 jpd_8 (by decide)
theorem jb_X9_fill : jcalB jG jq_X9_fill 3 := jcB jg_978 jg_638 jmh_9 jmv_9 jpd_29 (by decide)
theorem jb_X9_leastIn : jcalB jG jq_X9_leastIn 1 := jcB jg_979 jg_638 jmh_9 jmv_9 jpd_7 (by decide)
theorem jb_X9_ring : jcalB jG jq_X9_ring 2 := jcB jg_980 jg_638 jmh_9 jmv_9 jpd_8 (by decide)
theorem jb_X9_isWall : jcalB jG jq_X9_isWall 2 := jcB jg_981 jg_638 jmh_9 jmv_9 jpd_9 (by decide)
theorem jb_X9_areTwo : jcalB jG jq_X9_areTwo 2 := jcB jg_982 jg_638 jmh_9 jmv_9 jpd_9 (by decide)
theorem jb_X9_beside : jcalB jG jq_X9_beside 2 := jcB jg_983 jg_638 jmh_9 jmv_9 jpd_8 (by decide)
theorem jb_X9_ahead : jcalB jG jq_X9_ahead 2 := jcB jg_984 jg_638 jmh_9 jmv_9 jpd_8 (by decide)
theorem jb_X9_behind : jcalB jG jq_X9_behind 2 := jcB jg_985 jg_638 jmh_9 jmv_9 jpd_8 (by decide)
theorem jb_X9_end : jcalB jG jq_X9_end 3 := jcB jg_986 jg_638 jmh_9 jmv_9 jpd_29 (by decide)
theorem jb_X9_canTurn : jcalB jG jq_X9_canTurn 2 := jcB jg_987 jg_638 jmh_9 jmv_9 jpd_9 (by decide)
theorem jb_X9_turns : jcalB jG jq_X9_turns 2 := jcB jg_988 jg_638 jmh_9 jmv_9 jpd_10 (by decide)
theorem jb_X9_canVanish : jcalB jG jq_X9_canVanish 1 := jcB jg_989 jg_638 jmh_9 jmv_9 jpd_4 (by decide)
theorem jb_X9_vanishes : jcalB jG jq_X9_vanishes 1 := jcB jg_990 jg_638 jmh_9 jmv_9 jpd_11 (by decide)
theorem jb_X9_canBurst : jcalB jG jq_X9_canBurst 2 := jcB jg_991 jg_638 jmh_9 jmv_9 jpd_9 (by decide)
theorem jb_X9_bursts : jcalB jG jq_X9_bursts 2 := jcB jg_992 jg_638 jmh_9 jmv_9 jpd_8 (by decide)
theorem jb_X9_can : jcalB jG jq_X9_can 3 := jcB jg_993 jg_638 jmh_9 jmv_9 jpd_29 (by decide)
theorem jb_X9_turn : jcalB jG jq_X9_turn 2 := jcB jg_994 jg_638 jmh_9 jmv_9 jpd_8 (by decide)
theorem jb_X9_many : jcalB jG jq_X9_many 0 := jcB jg_995 jg_638 jmh_9 jmv_9 jpd_5 (by decide)
theorem jb_X9_vanish : jcalB jG jq_X9_vanish 1 := jcB jg_996 jg_638 jmh_9 jmv_9 jpd_7 (by decide)
theorem jb_X9_burst : jcalB jG jq_X9_burst 2 := jcB jg_997 jg_638 jmh_9 jmv_9 jpd_8 (by decide)
theorem jb_X9_feed : jcalB jG jq_X9_feed 2 := jcB jg_998 jg_638 jmh_9 jmv_9 jpd_30 (by decide)
theorem jb_X9_here : jcalB jG jq_X9_here 0 := jcB jg_999 jg_638 jmh_9 jmv_9 jpd_5 (by decide)
theorem jb_X9_takes : jcalB jG jq_X9_takes 1 := jcB jg_1000 jg_638 jmh_9 jmv_9 jpd_4 (by decide)
theorem jb_X9_codes : jcalB jG jq_X9_codes 1 := jcB jg_1001 jg_638 jmh_9 jmv_9 jpd_11 (by decide)
theorem jb_X9_either : jcalB jG jq_X9_either 0 := jcB jg_1002 jg_638 jmh_9 jmv_9 jpd_0 (by decide)
theorem jb_X9_both : jcalB jG jq_X9_both 0 := jcB jg_1003 jg_638 jmh_9 jmv_9 jpd_0 (by decide)
theorem jb_X9_compared : jcalB jG jq_X9_compared 0 := jcB jg_1004 jg_638 jmh_9 jmv_9 jpd_0 (by decide)
theorem jb_X9_sum : jcalB jG jq_X9_sum 0 := jcB jg_1005 jg_638 jmh_9 jmv_9 jpd_0 (by decide)
theorem jb_X9_product : jcalB jG jq_X9_product 0 := jcB jg_1006 jg_638 jmh_9 jmv_9 jpd_0 (by decide)
theorem jb_X9_nameOf : jcalB jG jq_X9_nameOf 1 := jcB jg_1007 jg_638 jmh_9 jmv_9 jpd_7 (by decide)
theorem jb_X9_one : jcalB jG jq_X9_one 0 := jcB jg_1008 jg_638 jmh_9 jmv_9 jpd_0 (by decide)
theorem jb_X9_text : jcalB jG jq_X9_text 1 := jcB jg_1009 jg_638 jmh_9 jmv_9 jpd_7 (by decide)
theorem jb_X9_untell : jcalB jG jq_X9_untell 1 := jcB jg_1010 jg_638 jmh_9 jmv_9 jpd_7 (by decide)
theorem jb_X9_done : jcalB jG jq_X9_done 3 := jcB jg_1011 jg_638 jmh_9 jmv_9 jpd_29 (by decide)
theorem jb_X9_worked : jcalB jG jq_X9_worked 1 := jcB jg_1012 jg_638 jmh_9 jmv_9 jpd_7 (by decide)
theorem jb_X9_hasText : jcalB jG jq_X9_hasText 1 := jcB jg_1013 jg_638 jmh_9 jmv_9 jpd_4 (by decide)
theorem jb_X9_given : jcalB jG jq_X9_given 6 := jcB jg_1014 jg_638 jmh_9 jmv_9 jpd_33 (by decide)
theorem jb_X9_rule : jcalB jG jq_X9_rule 2 := jcB jg_1015 jg_638 jmh_9 jmv_9 jpd_8 (by decide)
theorem jb_X9_passesBy : jcalB jG jq_X9_passesBy 2 := jcB jg_1016 jg_638 jmh_9 jmv_9 jpd_8 (by decide)
theorem jb_X9_passes : jcalB jG jq_X9_passes 2 := jcB jg_1017 jg_638 jmh_9 jmv_9 jpd_8 (by decide)
theorem jb_X9_gives : jcalB jG jq_X9_gives 3 := jcB jg_1018 jg_638 jmh_9 jmv_9 jpd_2 (by decide)
theorem jb_X9_passesAll : jcalB jG jq_X9_passesAll 0 := jcB jg_1019 jg_638 jmh_9 jmv_9 jpd_0 (by decide)
theorem jb_X9_drains : jcalB jG jq_X9_drains 1 := jcB jg_1020 jg_638 jmh_9 jmv_9 jpd_11 (by decide)
theorem jb_X9_isLower : jcalB jG jq_X9_isLower 2 := jcB jg_1021 jg_638 jmh_9 jmv_9 jpd_9 (by decide)
theorem jb_X9_runs : jcalB jG jq_X9_runs 0 := jcB jg_1022 jg_638 jmh_9 jmv_9 jpd_0 (by decide)
theorem jb_X9_drawn : jcalB jG jq_X9_drawn 1 := jcB jg_1023 jg_638 jmh_9 jmv_9 jpd_7 (by decide)
theorem jb_X9_isDry : jcalB jG jq_X9_isDry 2 := jcB jg_1024 jg_638 jmh_9 jmv_9 jpd_9 (by decide)
theorem jb_X9_burstsAll : jcalB jG jq_X9_burstsAll 0 := jcB jg_1025 jg_638 jmh_9 jmv_9 jpd_0 (by decide)
theorem jb_X9_turnsFirst : jcalB jG jq_X9_turnsFirst 1 := jcB jg_1026 jg_638 jmh_9 jmv_9 jpd_11 (by decide)
theorem jb_X9_ticks : jcalB jG jq_X9_ticks 0 := jcB jg_1027 jg_638 jmh_9 jmv_9 jpd_0 (by decide)
theorem jb_X9_tick : jcalB jG jq_X9_tick 1 := jcB jg_1028 jg_638 jmh_9 jmv_9 jpd_7 (by decide)
theorem jb_X9_stands : jcalB jG jq_X9_stands 2 := jcB jg_1029 jg_638 jmh_9 jmv_9 jpd_8 (by decide)
theorem jb_X9_seed : jcalB jG jq_X9_seed 1 := jcB jg_1030 jg_638 jmh_9 jmv_9 jpd_7 (by decide)
theorem jb_X9_all : jcalB jG jq_X9_all 1 := jcB jg_1031 jg_638 jmh_9 jmv_9 jpd_7 (by decide)
theorem jb_X9_pace : jcalB jG jq_X9_pace 1 := jcB jg_1032 jg_638 jmh_9 jmv_9 jpd_7 (by decide)
theorem jb_X9_sides : jcalB jG jq_X9_sides 1 := jcB jg_1033 jg_638 jmh_9 jmv_9 jpd_7 (by decide)
theorem jb_X9_around : jcalB jG jq_X9_around 1 := jcB jg_1034 jg_638 jmh_9 jmv_9 jpd_7 (by decide)
theorem jb_X9_first : jcalB jG jq_X9_first 1 := jcB jg_1035 jg_638 jmh_9 jmv_9 jpd_7 (by decide)
theorem jb_X9_besides : jcalB jG jq_X9_besides 1 := jcB jg_1036 jg_638 jmh_9 jmv_9 jpd_7 (by decide)
theorem jb_X9_way : jcalB jG jq_X9_way 2 := jcB jg_1037 jg_638 jmh_9 jmv_9 jpd_8 (by decide)
theorem jb_X9_mayBe : jcalB jG jq_X9_mayBe 2 := jcB jg_1038 jg_638 jmh_9 jmv_9 jpd_9 (by decide)
theorem jb_X9_coloured : jcalB jG jq_X9_coloured 2 := jcB jg_1039 jg_638 jmh_9 jmv_9 jpd_9 (by decide)
theorem jb_X9_colour : jcalB jG jq_X9_colour 2 := jcB jg_1040 jg_638 jmh_9 jmv_9 jpd_8 (by decide)
theorem jb_X9_bits : jcalB jG jq_X9_bits 1 := jcB jg_1041 jg_638 jmh_9 jmv_9 jpd_7 (by decide)
theorem jb_X9_there : jcalB jG jq_X9_there 0 := jcB jg_1042 jg_638 jmh_9 jmv_9 jpd_5 (by decide)
theorem jb_X9_apart : jcalB jG jq_X9_apart 1 := jcB jg_1043 jg_638 jmh_9 jmv_9 jpd_7 (by decide)
theorem jb_X9_marked : jcalB jG jq_X9_marked 1 := jcB jg_1044 jg_638 jmh_9 jmv_9 jpd_7 (by decide)
theorem jb_X9_began : jcalB jG jq_X9_began 1 := jcB jg_1045 jg_638 jmh_9 jmv_9 jpd_11 (by decide)
theorem jb_X9_hasOwn : jcalB jG jq_X9_hasOwn 2 := jcB jg_1046 jg_638 jmh_9 jmv_9 jpd_9 (by decide)
theorem jb_X9_voiced : jcalB jG jq_X9_voiced 2 := jcB jg_1047 jg_638 jmh_9 jmv_9 jpd_8 (by decide)
theorem jb_X9_bodyFrom : jcalB jG jq_X9_bodyFrom 3 := jcB jg_1048 jg_638 jmh_9 jmv_9 jpd_29 (by decide)
theorem jb_X9_body : jcalB jG jq_X9_body 3 := jcB jg_1049 jg_638 jmh_9 jmv_9 jpd_29 (by decide)
theorem jb_X9_voice : jcalB jG jq_X9_voice 3 := jcB jg_1050 jg_638 jmh_9 jmv_9 jpd_29 (by decide)
theorem jb_X9_body_ : jcalB jG jq_X9_body_ 1 := jcB jg_1051 jg_638 jmh_9 jmv_9 jpd_7 (by decide)
theorem jb_X9_isSheet : jcalB jG jq_X9_isSheet 1 := jcB jg_1052 jg_638 jmh_9 jmv_9 jpd_4 (by decide)
theorem jb_X9_sheet : jcalB jG jq_X9_sheet 3 := jcB jg_1053 jg_638 jmh_9 jmv_9 jpd_29 (by decide)
theorem jb_X9_put : jcalB jG jq_X9_put 3 := jcB jg_1054 jg_638 jmh_9 jmv_9 jpd_29 (by decide)
theorem jb_X9_move : jcalB jG jq_X9_move 5 := jcB jg_1055 jg_638 jmh_9 jmv_9 jpd_31 (by decide)
theorem jb_X9_gases : jcalB jG jq_X9_gases 1 := jcB jg_1056 jg_638 jmh_9 jmv_9 jpd_7 (by decide)
theorem jb_X9_image : jcalB jG jq_X9_image 0 := jcB jg_1057 jg_638 jmh_9 jmv_9 jpd_5 (by decide)
theorem jb_X9_restore : jcalB jG jq_X9_restore 0 := jcB jg_1058 jg_638 jmh_9 jmv_9 jpd_5 (by decide)
theorem jb_X9_tell : jcalB jG jq_X9_tell 1 := jcB jg_1059 jg_638 jmh_9 jmv_9 jpd_7 (by decide)
theorem jb_X9_check : jcalB jG jq_X9_check 1 := jcB jg_1060 jg_638 jmh_9 jmv_9 jpd_7 (by decide)
theorem jb_X9_count : jcalB jG jq_X9_count 1 := jcB jg_1061 jg_638 jmh_9 jmv_9 jpd_7 (by decide)
theorem jb_X9_told : jcalB jG jq_X9_told 1 := jcB jg_1062 jg_638 jmh_9 jmv_9 jpd_7 (by decide)
theorem jb_J6_bitCount_0f7a4 : jcalB jG jq_J6_bitCount_0f7a4 1 := jcB jg_1063 jg_1064 jmh_10 jmv_10 jpd_7 (by decide)
theorem jb_J9_floorMod_7cf53 : jcalB jG jq_J9_floorMod_7cf53 2 := jcB jg_1065 jg_1066 jmh_11 jmv_11 jpd_8 (by decide)
theorem jb_J9_abs_0f7a4 : jcalB jG jq_J9_abs_0f7a4 1 := jcB jg_1067 jg_1066 jmh_11 jmv_11 jpd_7 (by decide)
theorem jb_J9_max_7cf53 : jcalB jG jq_J9_max_7cf53 2 := jcB jg_1068 jg_1066 jmh_11 jmv_11 jpd_8 (by decide)
theorem jb_J9_max_f86c9 : jcalB jG jq_J9_max_f86c9 2 := jcB jg_1069 jg_1066 jmh_11 jmv_11 jpd_34 (by decide)
theorem jb_J9_min_7cf53 : jcalB jG jq_J9_min_7cf53 2 := jcB jg_1070 jg_1066 jmh_11 jmv_11 jpd_8 (by decide)
theorem jb_J9_min_f86c9 : jcalB jG jq_J9_min_f86c9 2 := jcB jg_1071 jg_1066 jmh_11 jmv_11 jpd_34 (by decide)
theorem jb_J7_fill_53178 : jcalB jG jq_J7_fill_53178 2 := jcB jg_1072 jg_1073 jmh_12 jmv_12 jpd_20 (by decide)
theorem jb_J0_checkIndex_df160 : jcalB jG jq_J0_checkIndex_df160 2 := jcB jg_1074 jg_1075 jmh_13 jmv_13 jpd_10 (by decide)
theorem jb_J0_length_8abf5 : jcalB jG jq_J0_length_8abf5 0 := jcB jg_1076 jg_1075 jmh_13 jmv_13 jpd_5 (by decide)
theorem jb_J0_charAt_5068e : jcalB jG jq_J0_charAt_5068e 1 := jcB jg_1077 jg_1075 jmh_13 jmv_13 jpd_35 (by decide)
theorem jb_J0_indexOf_0f7a4 : jcalB jG jq_J0_indexOf_0f7a4 1 := jcB jg_1078 jg_1075 jmh_13 jmv_13 jpd_7 (by decide)
theorem jb_J0_indexOf_7cf53 : jcalB jG jq_J0_indexOf_7cf53 2 := jcB jg_1079 jg_1075 jmh_13 jmv_13 jpd_8 (by decide)
theorem jb_J0_coder_7d493 : jcalB jG jq_J0_coder_7d493 0 := jcB jg_1080 jg_1075 jmh_13 jmv_13 jpd_36 (by decide)
theorem jb_J0_isLatin1_aae02 : jcalB jG jq_J0_isLatin1_aae02 0 := jcB jg_1081 jg_1075 jmh_13 jmv_13 jpd_19 (by decide)
theorem jb_J1_charAt_3b067 : jcalB jG jq_J1_charAt_3b067 2 := jcB jg_1082 jg_1083 jmh_14 jmv_14 jpd_37 (by decide)
theorem jb_J1_canEncode_9a6ad : jcalB jG jq_J1_canEncode_9a6ad 1 := jcB jg_1084 jg_1083 jmh_14 jmv_14 jpd_4 (by decide)
theorem jb_J1_indexOf_4cfef : jcalB jG jq_J1_indexOf_4cfef 4 := jcB jg_1085 jg_1083 jmh_14 jmv_14 jpd_38 (by decide)
theorem jb_J1_indexOfChar_4cfef : jcalB jG jq_J1_indexOfChar_4cfef 4 := jcB jg_1086 jg_1083 jmh_14 jmv_14 jpd_38 (by decide)
theorem jb_J3_checkIndex_8e157 : jcalB jG jq_J3_checkIndex_8e157 3 := jcB jg_1087 jg_1088 jmh_15 jmv_15 jpd_39 (by decide)
