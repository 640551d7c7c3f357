/-! THE LAW'S LOOP -/
noncomputable def Ctx2 (K : Mem × Mem → List jE) : Prop := (∀ r : Mem, Ctx shC (fun m => K (m, r))) ∧ (∀ c : Mem, Ctx shR (fun m => K (c, m)))
theorem ki_6 : Int32.ofInt (6) = (6 : Int32) := by decide +kernel
noncomputable def lL_law_18 (xs : List Int32) (s : Int32 × (Mem × Mem)) : Option ((Int32 × (Mem × Mem)) ⊕ (Int32 × (Mem × Mem))) := (if ((Int32.ofNat xs.length) - (6 : Int32)) < s.1 then some (.inr ((1 : Int32), s.2)) else (jat xs s.1).bind fun q1 => (if (q1 &&& (63 : Int32)) = (0 : Int32) then (jat xs (s.1 + (1 : Int32))).bind fun q2 => (jat xs (s.1 + (2 : Int32))).bind fun q3 => (jat xs (s.1 + (3 : Int32))).bind fun q4 => (fX8_foam q2 q3 q4 s.2.1).bind fun q5 => (jat xs (s.1 + (1 : Int32))).bind fun q6 => (jat xs (s.1 + (2 : Int32))).bind fun q7 => (jat xs (s.1 + (3 : Int32))).bind fun q8 => (fX9_foam q6 q7 q8 (q5.2, s.2.2).2).bind fun q9 => some (.inl ((s.1 + (6 : Int32)), ((q5.2, s.2.2).1, q9.2))) else (if (q1 &&& (63 : Int32)) = (1 : Int32) then (jat xs (s.1 + (1 : Int32))).bind fun q11 => (jat xs (s.1 + (2 : Int32))).bind fun q12 => (fX8_bubbleIs q11 q12 s.2.1).bind fun q13 => (jat xs (s.1 + (1 : Int32))).bind fun q14 => (jat xs (s.1 + (2 : Int32))).bind fun q15 => (fX9_bubbleIs q14 q15 (q13.2, s.2.2).2).bind fun q16 => some (.inl ((s.1 + (6 : Int32)), ((q13.2, s.2.2).1, q16.2))) else (if (q1 &&& (63 : Int32)) = (2 : Int32) then (jat xs (s.1 + (1 : Int32))).bind fun q18 => (jat xs (s.1 + (2 : Int32))).bind fun q19 => (fX8_as q18 q19 s.2.1).bind fun q20 => (jat xs (s.1 + (1 : Int32))).bind fun q21 => (jat xs (s.1 + (2 : Int32))).bind fun q22 => (fX9_as q21 q22 (q20.2, s.2.2).2).bind fun q23 => some (.inl ((s.1 + (6 : Int32)), ((q20.2, s.2.2).1, q23.2))) else (if (q1 &&& (63 : Int32)) = (3 : Int32) then (jat xs (s.1 + (1 : Int32))).bind fun q25 => (jat xs (s.1 + (2 : Int32))).bind fun q26 => (fX8_become q25 q26 s.2.1).bind fun q27 => (jat xs (s.1 + (1 : Int32))).bind fun q28 => (jat xs (s.1 + (2 : Int32))).bind fun q29 => (fX9_become q28 q29 (q27.2, s.2.2).2).bind fun q30 => some (.inl ((s.1 + (6 : Int32)), ((q27.2, s.2.2).1, q30.2))) else (if (q1 &&& (63 : Int32)) = (4 : Int32) then (jat xs (s.1 + (1 : Int32))).bind fun q32 => (jat xs (s.1 + (2 : Int32))).bind fun q33 => (jat xs (s.1 + (3 : Int32))).bind fun q34 => (fX8_fill q32 q33 q34 s.2.1).bind fun q35 => (jat xs (s.1 + (1 : Int32))).bind fun q36 => (jat xs (s.1 + (2 : Int32))).bind fun q37 => (jat xs (s.1 + (3 : Int32))).bind fun q38 => (fX9_fill q36 q37 q38 (q35.2, s.2.2).2).bind fun q39 => some (.inl ((s.1 + (6 : Int32)), ((q35.2, s.2.2).1, q39.2))) else (if (q1 &&& (63 : Int32)) = (5 : Int32) then (jat xs (s.1 + (1 : Int32))).bind fun q41 => (jat xs (s.1 + (2 : Int32))).bind fun q42 => (fX8_ring q41 q42 s.2.1).bind fun q43 => (jat xs (s.1 + (1 : Int32))).bind fun q44 => (jat xs (s.1 + (2 : Int32))).bind fun q45 => (fX9_ring q44 q45 (q43.2, s.2.2).2).bind fun q46 => some (.inl ((s.1 + (6 : Int32)), ((q43.2, s.2.2).1, q46.2))) else (if (q1 &&& (63 : Int32)) = (6 : Int32) then (jat xs (s.1 + (1 : Int32))).bind fun q48 => (jat xs (s.1 + (2 : Int32))).bind fun q49 => (fX8_beside q48 q49 s.2.1).bind fun q50 => (jat xs (s.1 + (1 : Int32))).bind fun q51 => (jat xs (s.1 + (2 : Int32))).bind fun q52 => (fX9_beside q51 q52 (q50.2, s.2.2).2).bind fun q53 => some (.inl ((s.1 + (6 : Int32)), ((q50.2, s.2.2).1, q53.2))) else (if (q1 &&& (63 : Int32)) = (7 : Int32) then (jat xs (s.1 + (1 : Int32))).bind fun q55 => (jat xs (s.1 + (2 : Int32))).bind fun q56 => (jat xs (s.1 + (3 : Int32))).bind fun q57 => (fX8_end q55 q56 q57 s.2.1).bind fun q58 => (jat xs (s.1 + (1 : Int32))).bind fun q59 => (jat xs (s.1 + (2 : Int32))).bind fun q60 => (jat xs (s.1 + (3 : Int32))).bind fun q61 => (fX9_end q59 q60 q61 (q58.2, s.2.2).2).bind fun q62 => some (.inl ((s.1 + (6 : Int32)), ((q58.2, s.2.2).1, q62.2))) else (if (q1 &&& (63 : Int32)) = (8 : Int32) then (jat xs (s.1 + (1 : Int32))).bind fun q64 => (jat xs (s.1 + (2 : Int32))).bind fun q65 => (jat xs (s.1 + (3 : Int32))).bind fun q66 => (fX8_can q64 q65 q66 s.2.1).bind fun q67 => (jat xs (s.1 + (1 : Int32))).bind fun q68 => (jat xs (s.1 + (2 : Int32))).bind fun q69 => (jat xs (s.1 + (3 : Int32))).bind fun q70 => (fX9_can q68 q69 q70 (q67.2, s.2.2).2).bind fun q71 => some (.inl ((s.1 + (6 : Int32)), ((q67.2, s.2.2).1, q71.2))) else (if (q1 &&& (63 : Int32)) = (9 : Int32) then (jat xs (s.1 + (1 : Int32))).bind fun q73 => (jat xs (s.1 + (2 : Int32))).bind fun q74 => (fX8_turn q73 q74 s.2.1).bind fun q75 => (jat xs (s.1 + (1 : Int32))).bind fun q76 => (jat xs (s.1 + (2 : Int32))).bind fun q77 => (fX9_turn q76 q77 (q75.2, s.2.2).2).bind fun q78 => some (.inl ((s.1 + (6 : Int32)), ((q75.2, s.2.2).1, q78.2))) else (if (q1 &&& (63 : Int32)) = (10 : Int32) then (jat xs (s.1 + (1 : Int32))).bind fun q80 => (fX8_vanish q80 s.2.1).bind fun q81 => (jat xs (s.1 + (1 : Int32))).bind fun q82 => (fX9_vanish q82 (q81.2, s.2.2).2).bind fun q83 => some (.inl ((s.1 + (6 : Int32)), ((q81.2, s.2.2).1, q83.2))) else (if (q1 &&& (63 : Int32)) = (11 : Int32) then (jat xs (s.1 + (1 : Int32))).bind fun q85 => (jat xs (s.1 + (2 : Int32))).bind fun q86 => (fX8_burst q85 q86 s.2.1).bind fun q87 => (jat xs (s.1 + (1 : Int32))).bind fun q88 => (jat xs (s.1 + (2 : Int32))).bind fun q89 => (fX9_burst q88 q89 (q87.2, s.2.2).2).bind fun q90 => some (.inl ((s.1 + (6 : Int32)), ((q87.2, s.2.2).1, q90.2))) else (if (q1 &&& (63 : Int32)) = (12 : Int32) then (jat xs (s.1 + (1 : Int32))).bind fun q92 => (jat xs (s.1 + (2 : Int32))).bind fun q93 => (jat xs (s.1 + (3 : Int32))).bind fun q94 => (fX8_feed ((lShl (q92.toInt64) (32 : Int32)) ||| ((q93.toInt64) &&& (4294967295 : Int64))) q94 s.2.1).bind fun q95 => (jat xs (s.1 + (1 : Int32))).bind fun q96 => (jat xs (s.1 + (2 : Int32))).bind fun q97 => (jat xs (s.1 + (3 : Int32))).bind fun q98 => (fX9_feed ((lShl (q96.toInt64) (32 : Int32)) ||| ((q97.toInt64) &&& (4294967295 : Int64))) q98 (q95.2, s.2.2).2).bind fun q99 => some (.inl ((s.1 + (6 : Int32)), ((q95.2, s.2.2).1, q99.2))) else (if (q1 &&& (63 : Int32)) = (13 : Int32) then (jat xs (s.1 + (1 : Int32))).bind fun q101 => (fX8_text q101 s.2.1).bind fun q102 => (jat xs (s.1 + (1 : Int32))).bind fun q103 => (fX9_text q103 (q102.2, s.2.2).2).bind fun q104 => some (.inl ((s.1 + (6 : Int32)), ((q102.2, s.2.2).1, q104.2))) else (if (q1 &&& (63 : Int32)) = (14 : Int32) then (jat xs (s.1 + (1 : Int32))).bind fun q106 => (fX8_untell q106 s.2.1).bind fun q107 => (jat xs (s.1 + (1 : Int32))).bind fun q108 => (fX9_untell q108 (q107.2, s.2.2).2).bind fun q109 => some (.inl ((s.1 + (6 : Int32)), ((q107.2, s.2.2).1, q109.2))) else (if (q1 &&& (63 : Int32)) = (15 : Int32) then (jat xs (s.1 + (1 : Int32))).bind fun q111 => (jat xs (s.1 + (2 : Int32))).bind fun q112 => (fX8_rule q111 q112 s.2.1).bind fun q113 => (jat xs (s.1 + (1 : Int32))).bind fun q114 => (jat xs (s.1 + (2 : Int32))).bind fun q115 => (fX9_rule q114 q115 (q113.2, s.2.2).2).bind fun q116 => some (.inl ((s.1 + (6 : Int32)), ((q113.2, s.2.2).1, q116.2))) else (if (q1 &&& (63 : Int32)) = (16 : Int32) then (jat xs (s.1 + (1 : Int32))).bind fun q118 => (jat xs (s.1 + (2 : Int32))).bind fun q119 => (fX8_passes q118 q119 s.2.1).bind fun q120 => (jat xs (s.1 + (1 : Int32))).bind fun q121 => (jat xs (s.1 + (2 : Int32))).bind fun q122 => (fX9_passes q121 q122 (q120.2, s.2.2).2).bind fun q123 => some (.inl ((s.1 + (6 : Int32)), ((q120.2, s.2.2).1, q123.2))) else (if (q1 &&& (63 : Int32)) = (17 : Int32) then (jat xs (s.1 + (1 : Int32))).bind fun q125 => (fX8_tick q125 s.2.1).bind fun q126 => (jat xs (s.1 + (1 : Int32))).bind fun q127 => (fX9_tick q127 (q126.2, s.2.2).2).bind fun q128 => some (.inl ((s.1 + (6 : Int32)), ((q126.2, s.2.2).1, q128.2))) else (if (q1 &&& (63 : Int32)) = (18 : Int32) then (jat xs (s.1 + (1 : Int32))).bind fun q130 => (jat xs (s.1 + (2 : Int32))).bind fun q131 => (fX8_stands q130 q131 s.2.1).bind fun q132 => (jat xs (s.1 + (1 : Int32))).bind fun q133 => (jat xs (s.1 + (2 : Int32))).bind fun q134 => (fX9_stands q133 q134 (q132.2, s.2.2).2).bind fun q135 => some (.inl ((s.1 + (6 : Int32)), ((q132.2, s.2.2).1, q135.2))) else (if (q1 &&& (63 : Int32)) = (19 : Int32) then (jat xs (s.1 + (1 : Int32))).bind fun q137 => (fX8_seed q137 s.2.1).bind fun q138 => (jat xs (s.1 + (1 : Int32))).bind fun q139 => (fX9_seed q139 (q138.2, s.2.2).2).bind fun q140 => some (.inl ((s.1 + (6 : Int32)), ((q138.2, s.2.2).1, q140.2))) else (if (q1 &&& (63 : Int32)) = (20 : Int32) then (jat xs (s.1 + (1 : Int32))).bind fun q142 => (fX8_all q142 s.2.1).bind fun q143 => (jat xs (s.1 + (1 : Int32))).bind fun q144 => (fX9_all q144 (q143.2, s.2.2).2).bind fun q145 => some (.inl ((s.1 + (6 : Int32)), ((q143.2, s.2.2).1, q145.2))) else (if (q1 &&& (63 : Int32)) = (21 : Int32) then (jat xs (s.1 + (1 : Int32))).bind fun q147 => (fX8_pace q147 s.2.1).bind fun q148 => (jat xs (s.1 + (1 : Int32))).bind fun q149 => (fX9_pace q149 (q148.2, s.2.2).2).bind fun q150 => some (.inl ((s.1 + (6 : Int32)), ((q148.2, s.2.2).1, q150.2))) else (if (q1 &&& (63 : Int32)) = (22 : Int32) then (jat xs (s.1 + (1 : Int32))).bind fun q152 => (fX8_sides q152 s.2.1).bind fun q153 => (jat xs (s.1 + (1 : Int32))).bind fun q154 => (fX9_sides q154 (q153.2, s.2.2).2).bind fun q155 => some (.inl ((s.1 + (6 : Int32)), ((q153.2, s.2.2).1, q155.2))) else (if (q1 &&& (63 : Int32)) = (23 : Int32) then (jat xs (s.1 + (1 : Int32))).bind fun q157 => (fX8_around q157 s.2.1).bind fun q158 => (jat xs (s.1 + (1 : Int32))).bind fun q159 => (fX9_around q159 (q158.2, s.2.2).2).bind fun q160 => some (.inl ((s.1 + (6 : Int32)), ((q158.2, s.2.2).1, q160.2))) else (if (q1 &&& (63 : Int32)) = (24 : Int32) then (jat xs (s.1 + (1 : Int32))).bind fun q162 => (fX8_first q162 s.2.1).bind fun q163 => (jat xs (s.1 + (1 : Int32))).bind fun q164 => (fX9_first q164 (q163.2, s.2.2).2).bind fun q165 => some (.inl ((s.1 + (6 : Int32)), ((q163.2, s.2.2).1, q165.2))) else (if (q1 &&& (63 : Int32)) = (25 : Int32) then (jat xs (s.1 + (1 : Int32))).bind fun q167 => (jat xs (s.1 + (2 : Int32))).bind fun q168 => (fX8_way q167 q168 s.2.1).bind fun q169 => (jat xs (s.1 + (1 : Int32))).bind fun q170 => (jat xs (s.1 + (2 : Int32))).bind fun q171 => (fX9_way q170 q171 (q169.2, s.2.2).2).bind fun q172 => some (.inl ((s.1 + (6 : Int32)), ((q169.2, s.2.2).1, q172.2))) else (if (q1 &&& (63 : Int32)) = (26 : Int32) then (jat xs (s.1 + (1 : Int32))).bind fun q174 => (jat xs (s.1 + (2 : Int32))).bind fun q175 => (fX8_colour q174 q175 s.2.1).bind fun q176 => (jat xs (s.1 + (1 : Int32))).bind fun q177 => (jat xs (s.1 + (2 : Int32))).bind fun q178 => (fX9_colour q177 q178 (q176.2, s.2.2).2).bind fun q179 => some (.inl ((s.1 + (6 : Int32)), ((q176.2, s.2.2).1, q179.2))) else (if (q1 &&& (63 : Int32)) = (27 : Int32) then (jat xs (s.1 + (1 : Int32))).bind fun q181 => (fX8_apart q181 s.2.1).bind fun q182 => (jat xs (s.1 + (1 : Int32))).bind fun q183 => (fX9_apart q183 (q182.2, s.2.2).2).bind fun q184 => some (.inl ((s.1 + (6 : Int32)), ((q182.2, s.2.2).1, q184.2))) else (if (q1 &&& (63 : Int32)) = (28 : Int32) then (jat xs (s.1 + (1 : Int32))).bind fun q186 => (fX8_marked q186 s.2.1).bind fun q187 => (jat xs (s.1 + (1 : Int32))).bind fun q188 => (fX9_marked q188 (q187.2, s.2.2).2).bind fun q189 => some (.inl ((s.1 + (6 : Int32)), ((q187.2, s.2.2).1, q189.2))) else (if (q1 &&& (63 : Int32)) = (29 : Int32) then (jat xs (s.1 + (1 : Int32))).bind fun q191 => (jat xs (s.1 + (2 : Int32))).bind fun q192 => (jat xs (s.1 + (3 : Int32))).bind fun q193 => (fX8_voice q191 q192 q193 s.2.1).bind fun q194 => (jat xs (s.1 + (1 : Int32))).bind fun q195 => (jat xs (s.1 + (2 : Int32))).bind fun q196 => (jat xs (s.1 + (3 : Int32))).bind fun q197 => (fX9_voice q195 q196 q197 (q194.2, s.2.2).2).bind fun q198 => some (.inl ((s.1 + (6 : Int32)), ((q194.2, s.2.2).1, q198.2))) else (if (q1 &&& (63 : Int32)) = (30 : Int32) then (jat xs (s.1 + (1 : Int32))).bind fun q200 => (fX8_body q200 s.2.1).bind fun q201 => (jat xs (s.1 + (1 : Int32))).bind fun q202 => (fX9_body_ q202 (q201.2, s.2.2).2).bind fun q203 => some (.inl ((s.1 + (6 : Int32)), ((q201.2, s.2.2).1, q203.2))) else (if (q1 &&& (63 : Int32)) = (31 : Int32) then (jat xs (s.1 + (1 : Int32))).bind fun q205 => (jat xs (s.1 + (2 : Int32))).bind fun q206 => (jat xs (s.1 + (3 : Int32))).bind fun q207 => (fX8_sheet q205 q206 q207 s.2.1).bind fun q208 => (jat xs (s.1 + (1 : Int32))).bind fun q209 => (jat xs (s.1 + (2 : Int32))).bind fun q210 => (jat xs (s.1 + (3 : Int32))).bind fun q211 => (fX9_sheet q209 q210 q211 (q208.2, s.2.2).2).bind fun q212 => some (.inl ((s.1 + (6 : Int32)), ((q208.2, s.2.2).1, q212.2))) else (if (q1 &&& (63 : Int32)) = (32 : Int32) then (jat xs (s.1 + (1 : Int32))).bind fun q214 => (jat xs (s.1 + (2 : Int32))).bind fun q215 => (jat xs (s.1 + (3 : Int32))).bind fun q216 => (fX8_put q214 q215 q216 s.2.1).bind fun q217 => (jat xs (s.1 + (1 : Int32))).bind fun q218 => (jat xs (s.1 + (2 : Int32))).bind fun q219 => (jat xs (s.1 + (3 : Int32))).bind fun q220 => (fX9_put q218 q219 q220 (q217.2, s.2.2).2).bind fun q221 => some (.inl ((s.1 + (6 : Int32)), ((q217.2, s.2.2).1, q221.2))) else (if (q1 &&& (63 : Int32)) = (33 : Int32) then (jat xs (s.1 + (1 : Int32))).bind fun q223 => (jat xs (s.1 + (2 : Int32))).bind fun q224 => (jat xs (s.1 + (3 : Int32))).bind fun q225 => (jat xs (s.1 + (4 : Int32))).bind fun q226 => (jat xs (s.1 + (5 : Int32))).bind fun q227 => (fX8_move q223 q224 q225 q226 q227 s.2.1).bind fun q228 => (jat xs (s.1 + (1 : Int32))).bind fun q229 => (jat xs (s.1 + (2 : Int32))).bind fun q230 => (jat xs (s.1 + (3 : Int32))).bind fun q231 => (jat xs (s.1 + (4 : Int32))).bind fun q232 => (jat xs (s.1 + (5 : Int32))).bind fun q233 => (fX9_move q229 q230 q231 q232 q233 (q228.2, s.2.2).2).bind fun q234 => some (.inl ((s.1 + (6 : Int32)), ((q228.2, s.2.2).1, q234.2))) else (if (q1 &&& (63 : Int32)) = (34 : Int32) then (jat xs (s.1 + (1 : Int32))).bind fun q236 => (fX8_gases q236 s.2.1).bind fun q237 => (jat xs (s.1 + (1 : Int32))).bind fun q238 => (fX9_gases q238 (q237.2, s.2.2).2).bind fun q239 => some (.inl ((s.1 + (6 : Int32)), ((q237.2, s.2.2).1, q239.2))) else (if (q1 &&& (63 : Int32)) = (35 : Int32) then (fX8_image s.2.1).bind fun q241 => (fX9_image (q241.2, s.2.2).2).bind fun q242 => some (.inl ((s.1 + (6 : Int32)), ((q241.2, s.2.2).1, q242.2))) else (if (q1 &&& (63 : Int32)) = (36 : Int32) then (fX8_restore s.2.1).bind fun q244 => (fX9_restore (q244.2, s.2.2).2).bind fun q245 => some (.inl ((s.1 + (6 : Int32)), ((q244.2, s.2.2).1, q245.2))) else (if (q1 &&& (63 : Int32)) = (37 : Int32) then (jat xs (s.1 + (1 : Int32))).bind fun q247 => (fX8_tell q247 s.2.1).bind fun q248 => (jat xs (s.1 + (1 : Int32))).bind fun q249 => (fX9_tell q249 (q248.2, s.2.2).2).bind fun q250 => some (.inl ((s.1 + (6 : Int32)), ((q248.2, s.2.2).1, q250.2))) else (if (q1 &&& (63 : Int32)) = (38 : Int32) then (jat xs (s.1 + (1 : Int32))).bind fun q252 => (fX8_check q252 s.2.1).bind fun q253 => (jat xs (s.1 + (1 : Int32))).bind fun q254 => (fX9_check q254 (q253.2, s.2.2).2).bind fun q255 => (if q253.1 = q255.1 then some (.inl ((s.1 + (6 : Int32)), ((q253.2, s.2.2).1, q255.2))) else some (.inr ((0 : Int32), ((q253.2, s.2.2).1, q255.2)))) else (if (q1 &&& (63 : Int32)) = (39 : Int32) then (jat xs (s.1 + (1 : Int32))).bind fun q257 => (fX8_count q257 s.2.1).bind fun q258 => (jat xs (s.1 + (1 : Int32))).bind fun q259 => (fX9_count q259 (q258.2, s.2.2).2).bind fun q260 => some (.inl ((s.1 + (6 : Int32)), ((q258.2, s.2.2).1, q260.2))) else (if (q1 &&& (63 : Int32)) = (40 : Int32) then (jat xs (s.1 + (1 : Int32))).bind fun q262 => (fX8_told q262 s.2.1).bind fun q263 => (jat xs (s.1 + (1 : Int32))).bind fun q264 => (fX9_told q264 (q263.2, s.2.2).2).bind fun q265 => some (.inl ((s.1 + (6 : Int32)), ((q263.2, s.2.2).1, q265.2))) else some (.inl ((s.1 + (6 : Int32)), s.2))))))))))))))))))))))))))))))))))))))))))))
noncomputable def gL_law_18 (xs : List Int32) (d : Nat) (r : jR) (K : (Mem × Mem) → List jE) (xs : List Int32) (s : Int32 × (Mem × Mem)) : Prop := ∀ L, jget L 0 = some (.ref (jK0 + 20)) → jget L 1 = some (.ref 0) → jget L 2 = some (.ref 137) → jget L 3 = some (.int s.1) → RunD (jcs xs) d 4 (some .boolean) jt_L_law (18, L, [], (K s.2)) r
theorem BL_law_18 {xs : List Int32} {d : Nat} {r : jR} {K : (Mem × Mem) → List jE} (hK : Ctx2 K) (hd : 109 ≤ d)  (s : Int32 × (Mem × Mem)) {t : (Int32 × (Mem × Mem)) ⊕ (Int32 × (Mem × Mem))} (h : lL_law_18 xs s = some t) (hq : sQ (gL_law_18 xs d r K xs) (qIM r K) t) : gL_law_18 xs d r K xs s := by
  intro L l0 l1 l2 l3
  unfold lL_law_18 at h
  refine R_iload_n (p := 19) rfl l3 rfl ?_
  refine R_aload_n (p := 20) rfl l0 rfl ?_
  refine R_alec (p := 21) (l := xs) rfl rfl rfl rfl ?_
  refine R_bipush (p := 23) rfl kb_6 rfl ?_
  refine R_isub (p := 24) rfl rfl ?_
  by_cases hc : ((Int32.ofNat xs.length) - (6 : Int32)) < s.1
  · replace h := ite_t h hc
    refine R_icgt_t rfl hc ?_
    refine R_iconst (p := 1482) rfl ki_1 rfl ?_
    obtain rfl := Option.some.inj h
    exact R_zreturn rfl rfl (by decide) hq
  · replace h := ite_f h hc
    refine R_icgt_f (p := 27) rfl hc rfl ?_
    refine R_aload_n (p := 28) rfl l0 rfl ?_
    refine R_iload_n (p := 29) rfl l3 rfl ?_
    obtain ⟨q1, eq1, h⟩ := bind_some h
    refine R_ialc (p := 30) (l := xs) rfl rfl eq1 rfl ?_
    refine R_bipush (p := 32) rfl kb_63 rfl ?_
    refine R_iand (p := 33) rfl rfl ?_
    by_cases n10 : (q1 &&& (63 : Int32)) = (0 : Int32)
    · replace h := ite_t h n10
      refine R_tsw (p := 212) rfl rfl (by rw [n10]; decide +kernel) ?_
      refine R_aload_n (p := 213) rfl l1 rfl ?_
      refine R_aload_n (p := 214) rfl l0 rfl ?_
      refine R_iload_n (p := 215) rfl l3 rfl ?_
      refine R_iconst (p := 216) rfl ki_1 rfl ?_
      refine R_iadd (p := 217) rfl rfl ?_
      obtain ⟨q2, eq2, h⟩ := bind_some h
      refine R_ialc (p := 218) (l := xs) rfl rfl eq2 rfl ?_
      refine R_aload_n (p := 219) rfl l0 rfl ?_
      refine R_iload_n (p := 220) rfl l3 rfl ?_
      refine R_iconst (p := 221) rfl ki_2 rfl ?_
      refine R_iadd (p := 222) rfl rfl ?_
      obtain ⟨q3, eq3, h⟩ := bind_some h
      refine R_ialc (p := 223) (l := xs) rfl rfl eq3 rfl ?_
      refine R_aload_n (p := 224) rfl l0 rfl ?_
      refine R_iload_n (p := 225) rfl l3 rfl ?_
      refine R_iconst (p := 226) rfl ki_3 rfl ?_
      refine R_iadd (p := 227) rfl rfl ?_
      obtain ⟨q4, eq4, h⟩ := bind_some h
      refine R_ialc (p := 228) (l := xs) rfl rfl eq4 rfl ?_
      obtain ⟨q5, eq5, h⟩ := bind_some h
      refine R_cV4v (p := 231) (hK.1 s.2.2) rfl rfl (tfX8_foam (hK.1 s.2.2) (Nat.le_trans (by decide) hd) eq5) rfl rfl ?_
      refine R_popi (p := 232) rfl rfl ?_
      refine R_aload_n (p := 233) rfl l2 rfl ?_
      refine R_aload_n (p := 234) rfl l0 rfl ?_
      refine R_iload_n (p := 235) rfl l3 rfl ?_
      refine R_iconst (p := 236) rfl ki_1 rfl ?_
      refine R_iadd (p := 237) rfl rfl ?_
      obtain ⟨q6, eq6, h⟩ := bind_some h
      refine R_ialc (p := 238) (l := xs) rfl rfl eq6 rfl ?_
      refine R_aload_n (p := 239) rfl l0 rfl ?_
      refine R_iload_n (p := 240) rfl l3 rfl ?_
      refine R_iconst (p := 241) rfl ki_2 rfl ?_
      refine R_iadd (p := 242) rfl rfl ?_
      obtain ⟨q7, eq7, h⟩ := bind_some h
      refine R_ialc (p := 243) (l := xs) rfl rfl eq7 rfl ?_
      refine R_aload_n (p := 244) rfl l0 rfl ?_
      refine R_iload_n (p := 245) rfl l3 rfl ?_
      refine R_iconst (p := 246) rfl ki_3 rfl ?_
      refine R_iadd (p := 247) rfl rfl ?_
      obtain ⟨q8, eq8, h⟩ := bind_some h
      refine R_ialc (p := 248) (l := xs) rfl rfl eq8 rfl ?_
      obtain ⟨q9, eq9, h⟩ := bind_some h
      refine R_cV4v (p := 251) (hK.2 (q5.2, s.2.2).1) rfl rfl (tfX9_foam (hK.2 (q5.2, s.2.2).1) (Nat.le_trans (by decide) hd) eq9) rfl rfl ?_
      refine R_popi (p := 252) rfl rfl ?_
      refine R_goto rfl ?_
      refine R_iinc (p := 1478) rfl l3 rfl ki_6 rfl ?_
      refine R_goto rfl ?_
      obtain rfl := Option.some.inj h
      exact hq _ (jg_ne l0 rfl) (jg_ne l1 rfl) (jg_ne l2 rfl) jg_self
    replace h := ite_f h n10
    by_cases n17 : (q1 &&& (63 : Int32)) = (1 : Int32)
    · replace h := ite_t h n17
      refine R_tsw (p := 255) rfl rfl (by rw [n17]; decide +kernel) ?_
      refine R_aload_n (p := 256) rfl l1 rfl ?_
      refine R_aload_n (p := 257) rfl l0 rfl ?_
      refine R_iload_n (p := 258) rfl l3 rfl ?_
      refine R_iconst (p := 259) rfl ki_1 rfl ?_
      refine R_iadd (p := 260) rfl rfl ?_
      obtain ⟨q11, eq11, h⟩ := bind_some h
      refine R_ialc (p := 261) (l := xs) rfl rfl eq11 rfl ?_
      refine R_aload_n (p := 262) rfl l0 rfl ?_
      refine R_iload_n (p := 263) rfl l3 rfl ?_
      refine R_iconst (p := 264) rfl ki_2 rfl ?_
      refine R_iadd (p := 265) rfl rfl ?_
      obtain ⟨q12, eq12, h⟩ := bind_some h
      refine R_ialc (p := 266) (l := xs) rfl rfl eq12 rfl ?_
      obtain ⟨q13, eq13, h⟩ := bind_some h
      refine R_cV3v (p := 269) (hK.1 s.2.2) rfl rfl (tfX8_bubbleIs (hK.1 s.2.2) (Nat.le_trans (by decide) hd) eq13) rfl rfl ?_
      refine R_popi (p := 270) rfl rfl ?_
      refine R_aload_n (p := 271) rfl l2 rfl ?_
      refine R_aload_n (p := 272) rfl l0 rfl ?_
      refine R_iload_n (p := 273) rfl l3 rfl ?_
      refine R_iconst (p := 274) rfl ki_1 rfl ?_
      refine R_iadd (p := 275) rfl rfl ?_
      obtain ⟨q14, eq14, h⟩ := bind_some h
      refine R_ialc (p := 276) (l := xs) rfl rfl eq14 rfl ?_
      refine R_aload_n (p := 277) rfl l0 rfl ?_
      refine R_iload_n (p := 278) rfl l3 rfl ?_
      refine R_iconst (p := 279) rfl ki_2 rfl ?_
      refine R_iadd (p := 280) rfl rfl ?_
      obtain ⟨q15, eq15, h⟩ := bind_some h
      refine R_ialc (p := 281) (l := xs) rfl rfl eq15 rfl ?_
      obtain ⟨q16, eq16, h⟩ := bind_some h
      refine R_cV3v (p := 284) (hK.2 (q13.2, s.2.2).1) rfl rfl (tfX9_bubbleIs (hK.2 (q13.2, s.2.2).1) (Nat.le_trans (by decide) hd) eq16) rfl rfl ?_
      refine R_popi (p := 285) rfl rfl ?_
      refine R_goto rfl ?_
      refine R_iinc (p := 1478) rfl l3 rfl ki_6 rfl ?_
      refine R_goto rfl ?_
      obtain rfl := Option.some.inj h
      exact hq _ (jg_ne l0 rfl) (jg_ne l1 rfl) (jg_ne l2 rfl) jg_self
    replace h := ite_f h n17
    by_cases n24 : (q1 &&& (63 : Int32)) = (2 : Int32)
    · replace h := ite_t h n24
      refine R_tsw (p := 288) rfl rfl (by rw [n24]; decide +kernel) ?_
      refine R_aload_n (p := 289) rfl l1 rfl ?_
      refine R_aload_n (p := 290) rfl l0 rfl ?_
      refine R_iload_n (p := 291) rfl l3 rfl ?_
      refine R_iconst (p := 292) rfl ki_1 rfl ?_
      refine R_iadd (p := 293) rfl rfl ?_
      obtain ⟨q18, eq18, h⟩ := bind_some h
      refine R_ialc (p := 294) (l := xs) rfl rfl eq18 rfl ?_
      refine R_aload_n (p := 295) rfl l0 rfl ?_
      refine R_iload_n (p := 296) rfl l3 rfl ?_
      refine R_iconst (p := 297) rfl ki_2 rfl ?_
      refine R_iadd (p := 298) rfl rfl ?_
      obtain ⟨q19, eq19, h⟩ := bind_some h
      refine R_ialc (p := 299) (l := xs) rfl rfl eq19 rfl ?_
      obtain ⟨q20, eq20, h⟩ := bind_some h
      refine R_cV3v (p := 302) (hK.1 s.2.2) rfl rfl (tfX8_as (hK.1 s.2.2) (Nat.le_trans (by decide) hd) eq20) rfl rfl ?_
      refine R_popi (p := 303) rfl rfl ?_
      refine R_aload_n (p := 304) rfl l2 rfl ?_
      refine R_aload_n (p := 305) rfl l0 rfl ?_
      refine R_iload_n (p := 306) rfl l3 rfl ?_
      refine R_iconst (p := 307) rfl ki_1 rfl ?_
      refine R_iadd (p := 308) rfl rfl ?_
      obtain ⟨q21, eq21, h⟩ := bind_some h
      refine R_ialc (p := 309) (l := xs) rfl rfl eq21 rfl ?_
      refine R_aload_n (p := 310) rfl l0 rfl ?_
      refine R_iload_n (p := 311) rfl l3 rfl ?_
      refine R_iconst (p := 312) rfl ki_2 rfl ?_
      refine R_iadd (p := 313) rfl rfl ?_
      obtain ⟨q22, eq22, h⟩ := bind_some h
      refine R_ialc (p := 314) (l := xs) rfl rfl eq22 rfl ?_
      obtain ⟨q23, eq23, h⟩ := bind_some h
      refine R_cV3v (p := 317) (hK.2 (q20.2, s.2.2).1) rfl rfl (tfX9_as (hK.2 (q20.2, s.2.2).1) (Nat.le_trans (by decide) hd) eq23) rfl rfl ?_
      refine R_popi (p := 318) rfl rfl ?_
      refine R_goto rfl ?_
      refine R_iinc (p := 1478) rfl l3 rfl ki_6 rfl ?_
      refine R_goto rfl ?_
      obtain rfl := Option.some.inj h
      exact hq _ (jg_ne l0 rfl) (jg_ne l1 rfl) (jg_ne l2 rfl) jg_self
    replace h := ite_f h n24
    by_cases n31 : (q1 &&& (63 : Int32)) = (3 : Int32)
    · replace h := ite_t h n31
      refine R_tsw (p := 321) rfl rfl (by rw [n31]; decide +kernel) ?_
      refine R_aload_n (p := 322) rfl l1 rfl ?_
      refine R_aload_n (p := 323) rfl l0 rfl ?_
      refine R_iload_n (p := 324) rfl l3 rfl ?_
      refine R_iconst (p := 325) rfl ki_1 rfl ?_
      refine R_iadd (p := 326) rfl rfl ?_
      obtain ⟨q25, eq25, h⟩ := bind_some h
      refine R_ialc (p := 327) (l := xs) rfl rfl eq25 rfl ?_
      refine R_aload_n (p := 328) rfl l0 rfl ?_
      refine R_iload_n (p := 329) rfl l3 rfl ?_
      refine R_iconst (p := 330) rfl ki_2 rfl ?_
      refine R_iadd (p := 331) rfl rfl ?_
      obtain ⟨q26, eq26, h⟩ := bind_some h
      refine R_ialc (p := 332) (l := xs) rfl rfl eq26 rfl ?_
      obtain ⟨q27, eq27, h⟩ := bind_some h
      refine R_cV3v (p := 335) (hK.1 s.2.2) rfl rfl (tfX8_become (hK.1 s.2.2) (Nat.le_trans (by decide) hd) eq27) rfl rfl ?_
      refine R_popi (p := 336) rfl rfl ?_
      refine R_aload_n (p := 337) rfl l2 rfl ?_
      refine R_aload_n (p := 338) rfl l0 rfl ?_
      refine R_iload_n (p := 339) rfl l3 rfl ?_
      refine R_iconst (p := 340) rfl ki_1 rfl ?_
      refine R_iadd (p := 341) rfl rfl ?_
      obtain ⟨q28, eq28, h⟩ := bind_some h
      refine R_ialc (p := 342) (l := xs) rfl rfl eq28 rfl ?_
      refine R_aload_n (p := 343) rfl l0 rfl ?_
      refine R_iload_n (p := 344) rfl l3 rfl ?_
      refine R_iconst (p := 345) rfl ki_2 rfl ?_
      refine R_iadd (p := 346) rfl rfl ?_
      obtain ⟨q29, eq29, h⟩ := bind_some h
      refine R_ialc (p := 347) (l := xs) rfl rfl eq29 rfl ?_
      obtain ⟨q30, eq30, h⟩ := bind_some h
      refine R_cV3v (p := 350) (hK.2 (q27.2, s.2.2).1) rfl rfl (tfX9_become (hK.2 (q27.2, s.2.2).1) (Nat.le_trans (by decide) hd) eq30) rfl rfl ?_
      refine R_popi (p := 351) rfl rfl ?_
      refine R_goto rfl ?_
      refine R_iinc (p := 1478) rfl l3 rfl ki_6 rfl ?_
      refine R_goto rfl ?_
      obtain rfl := Option.some.inj h
      exact hq _ (jg_ne l0 rfl) (jg_ne l1 rfl) (jg_ne l2 rfl) jg_self
    replace h := ite_f h n31
    by_cases n40 : (q1 &&& (63 : Int32)) = (4 : Int32)
    · replace h := ite_t h n40
      refine R_tsw (p := 354) rfl rfl (by rw [n40]; decide +kernel) ?_
      refine R_aload_n (p := 355) rfl l1 rfl ?_
      refine R_aload_n (p := 356) rfl l0 rfl ?_
      refine R_iload_n (p := 357) rfl l3 rfl ?_
      refine R_iconst (p := 358) rfl ki_1 rfl ?_
      refine R_iadd (p := 359) rfl rfl ?_
      obtain ⟨q32, eq32, h⟩ := bind_some h
      refine R_ialc (p := 360) (l := xs) rfl rfl eq32 rfl ?_
      refine R_aload_n (p := 361) rfl l0 rfl ?_
      refine R_iload_n (p := 362) rfl l3 rfl ?_
      refine R_iconst (p := 363) rfl ki_2 rfl ?_
      refine R_iadd (p := 364) rfl rfl ?_
      obtain ⟨q33, eq33, h⟩ := bind_some h
      refine R_ialc (p := 365) (l := xs) rfl rfl eq33 rfl ?_
      refine R_aload_n (p := 366) rfl l0 rfl ?_
      refine R_iload_n (p := 367) rfl l3 rfl ?_
      refine R_iconst (p := 368) rfl ki_3 rfl ?_
      refine R_iadd (p := 369) rfl rfl ?_
      obtain ⟨q34, eq34, h⟩ := bind_some h
      refine R_ialc (p := 370) (l := xs) rfl rfl eq34 rfl ?_
      obtain ⟨q35, eq35, h⟩ := bind_some h
      refine R_cV4v (p := 373) (hK.1 s.2.2) rfl rfl (tfX8_fill (hK.1 s.2.2) (Nat.le_trans (by decide) hd) eq35) rfl rfl ?_
      refine R_popi (p := 374) rfl rfl ?_
      refine R_aload_n (p := 375) rfl l2 rfl ?_
      refine R_aload_n (p := 376) rfl l0 rfl ?_
      refine R_iload_n (p := 377) rfl l3 rfl ?_
      refine R_iconst (p := 378) rfl ki_1 rfl ?_
      refine R_iadd (p := 379) rfl rfl ?_
      obtain ⟨q36, eq36, h⟩ := bind_some h
      refine R_ialc (p := 380) (l := xs) rfl rfl eq36 rfl ?_
      refine R_aload_n (p := 381) rfl l0 rfl ?_
      refine R_iload_n (p := 382) rfl l3 rfl ?_
      refine R_iconst (p := 383) rfl ki_2 rfl ?_
      refine R_iadd (p := 384) rfl rfl ?_
      obtain ⟨q37, eq37, h⟩ := bind_some h
      refine R_ialc (p := 385) (l := xs) rfl rfl eq37 rfl ?_
      refine R_aload_n (p := 386) rfl l0 rfl ?_
      refine R_iload_n (p := 387) rfl l3 rfl ?_
      refine R_iconst (p := 388) rfl ki_3 rfl ?_
      refine R_iadd (p := 389) rfl rfl ?_
      obtain ⟨q38, eq38, h⟩ := bind_some h
      refine R_ialc (p := 390) (l := xs) rfl rfl eq38 rfl ?_
      obtain ⟨q39, eq39, h⟩ := bind_some h
      refine R_cV4v (p := 393) (hK.2 (q35.2, s.2.2).1) rfl rfl (tfX9_fill (hK.2 (q35.2, s.2.2).1) (Nat.le_trans (by decide) hd) eq39) rfl rfl ?_
      refine R_popi (p := 394) rfl rfl ?_
      refine R_goto rfl ?_
      refine R_iinc (p := 1478) rfl l3 rfl ki_6 rfl ?_
      refine R_goto rfl ?_
      obtain rfl := Option.some.inj h
      exact hq _ (jg_ne l0 rfl) (jg_ne l1 rfl) (jg_ne l2 rfl) jg_self
    replace h := ite_f h n40
    by_cases n47 : (q1 &&& (63 : Int32)) = (5 : Int32)
    · replace h := ite_t h n47
      refine R_tsw (p := 397) rfl rfl (by rw [n47]; decide +kernel) ?_
      refine R_aload_n (p := 398) rfl l1 rfl ?_
      refine R_aload_n (p := 399) rfl l0 rfl ?_
      refine R_iload_n (p := 400) rfl l3 rfl ?_
      refine R_iconst (p := 401) rfl ki_1 rfl ?_
      refine R_iadd (p := 402) rfl rfl ?_
      obtain ⟨q41, eq41, h⟩ := bind_some h
      refine R_ialc (p := 403) (l := xs) rfl rfl eq41 rfl ?_
      refine R_aload_n (p := 404) rfl l0 rfl ?_
      refine R_iload_n (p := 405) rfl l3 rfl ?_
      refine R_iconst (p := 406) rfl ki_2 rfl ?_
      refine R_iadd (p := 407) rfl rfl ?_
      obtain ⟨q42, eq42, h⟩ := bind_some h
      refine R_ialc (p := 408) (l := xs) rfl rfl eq42 rfl ?_
      obtain ⟨q43, eq43, h⟩ := bind_some h
      refine R_cV3v (p := 411) (hK.1 s.2.2) rfl rfl (tfX8_ring (hK.1 s.2.2) (Nat.le_trans (by decide) hd) eq43) rfl rfl ?_
      refine R_popi (p := 412) rfl rfl ?_
      refine R_aload_n (p := 413) rfl l2 rfl ?_
      refine R_aload_n (p := 414) rfl l0 rfl ?_
      refine R_iload_n (p := 415) rfl l3 rfl ?_
      refine R_iconst (p := 416) rfl ki_1 rfl ?_
      refine R_iadd (p := 417) rfl rfl ?_
      obtain ⟨q44, eq44, h⟩ := bind_some h
      refine R_ialc (p := 418) (l := xs) rfl rfl eq44 rfl ?_
      refine R_aload_n (p := 419) rfl l0 rfl ?_
      refine R_iload_n (p := 420) rfl l3 rfl ?_
      refine R_iconst (p := 421) rfl ki_2 rfl ?_
      refine R_iadd (p := 422) rfl rfl ?_
      obtain ⟨q45, eq45, h⟩ := bind_some h
      refine R_ialc (p := 423) (l := xs) rfl rfl eq45 rfl ?_
      obtain ⟨q46, eq46, h⟩ := bind_some h
      refine R_cV3v (p := 426) (hK.2 (q43.2, s.2.2).1) rfl rfl (tfX9_ring (hK.2 (q43.2, s.2.2).1) (Nat.le_trans (by decide) hd) eq46) rfl rfl ?_
      refine R_popi (p := 427) rfl rfl ?_
      refine R_goto rfl ?_
      refine R_iinc (p := 1478) rfl l3 rfl ki_6 rfl ?_
      refine R_goto rfl ?_
      obtain rfl := Option.some.inj h
      exact hq _ (jg_ne l0 rfl) (jg_ne l1 rfl) (jg_ne l2 rfl) jg_self
    replace h := ite_f h n47
    by_cases n54 : (q1 &&& (63 : Int32)) = (6 : Int32)
    · replace h := ite_t h n54
      refine R_tsw (p := 430) rfl rfl (by rw [n54]; decide +kernel) ?_
      refine R_aload_n (p := 431) rfl l1 rfl ?_
      refine R_aload_n (p := 432) rfl l0 rfl ?_
      refine R_iload_n (p := 433) rfl l3 rfl ?_
      refine R_iconst (p := 434) rfl ki_1 rfl ?_
      refine R_iadd (p := 435) rfl rfl ?_
      obtain ⟨q48, eq48, h⟩ := bind_some h
      refine R_ialc (p := 436) (l := xs) rfl rfl eq48 rfl ?_
      refine R_aload_n (p := 437) rfl l0 rfl ?_
      refine R_iload_n (p := 438) rfl l3 rfl ?_
      refine R_iconst (p := 439) rfl ki_2 rfl ?_
      refine R_iadd (p := 440) rfl rfl ?_
      obtain ⟨q49, eq49, h⟩ := bind_some h
      refine R_ialc (p := 441) (l := xs) rfl rfl eq49 rfl ?_
      obtain ⟨q50, eq50, h⟩ := bind_some h
      refine R_cV3v (p := 444) (hK.1 s.2.2) rfl rfl (tfX8_beside (hK.1 s.2.2) (Nat.le_trans (by decide) hd) eq50) rfl rfl ?_
      refine R_popi (p := 445) rfl rfl ?_
      refine R_aload_n (p := 446) rfl l2 rfl ?_
      refine R_aload_n (p := 447) rfl l0 rfl ?_
      refine R_iload_n (p := 448) rfl l3 rfl ?_
      refine R_iconst (p := 449) rfl ki_1 rfl ?_
      refine R_iadd (p := 450) rfl rfl ?_
      obtain ⟨q51, eq51, h⟩ := bind_some h
      refine R_ialc (p := 451) (l := xs) rfl rfl eq51 rfl ?_
      refine R_aload_n (p := 452) rfl l0 rfl ?_
      refine R_iload_n (p := 453) rfl l3 rfl ?_
      refine R_iconst (p := 454) rfl ki_2 rfl ?_
      refine R_iadd (p := 455) rfl rfl ?_
      obtain ⟨q52, eq52, h⟩ := bind_some h
      refine R_ialc (p := 456) (l := xs) rfl rfl eq52 rfl ?_
      obtain ⟨q53, eq53, h⟩ := bind_some h
      refine R_cV3v (p := 459) (hK.2 (q50.2, s.2.2).1) rfl rfl (tfX9_beside (hK.2 (q50.2, s.2.2).1) (Nat.le_trans (by decide) hd) eq53) rfl rfl ?_
      refine R_popi (p := 460) rfl rfl ?_
      refine R_goto rfl ?_
      refine R_iinc (p := 1478) rfl l3 rfl ki_6 rfl ?_
      refine R_goto rfl ?_
      obtain rfl := Option.some.inj h
      exact hq _ (jg_ne l0 rfl) (jg_ne l1 rfl) (jg_ne l2 rfl) jg_self
    replace h := ite_f h n54
    by_cases n63 : (q1 &&& (63 : Int32)) = (7 : Int32)
    · replace h := ite_t h n63
      refine R_tsw (p := 463) rfl rfl (by rw [n63]; decide +kernel) ?_
      refine R_aload_n (p := 464) rfl l1 rfl ?_
      refine R_aload_n (p := 465) rfl l0 rfl ?_
      refine R_iload_n (p := 466) rfl l3 rfl ?_
      refine R_iconst (p := 467) rfl ki_1 rfl ?_
      refine R_iadd (p := 468) rfl rfl ?_
      obtain ⟨q55, eq55, h⟩ := bind_some h
      refine R_ialc (p := 469) (l := xs) rfl rfl eq55 rfl ?_
      refine R_aload_n (p := 470) rfl l0 rfl ?_
      refine R_iload_n (p := 471) rfl l3 rfl ?_
      refine R_iconst (p := 472) rfl ki_2 rfl ?_
      refine R_iadd (p := 473) rfl rfl ?_
      obtain ⟨q56, eq56, h⟩ := bind_some h
      refine R_ialc (p := 474) (l := xs) rfl rfl eq56 rfl ?_
      refine R_aload_n (p := 475) rfl l0 rfl ?_
      refine R_iload_n (p := 476) rfl l3 rfl ?_
      refine R_iconst (p := 477) rfl ki_3 rfl ?_
      refine R_iadd (p := 478) rfl rfl ?_
      obtain ⟨q57, eq57, h⟩ := bind_some h
      refine R_ialc (p := 479) (l := xs) rfl rfl eq57 rfl ?_
      obtain ⟨q58, eq58, h⟩ := bind_some h
      refine R_cV4v (p := 482) (hK.1 s.2.2) rfl rfl (tfX8_end (hK.1 s.2.2) (Nat.le_trans (by decide) hd) eq58) rfl rfl ?_
      refine R_popi (p := 483) rfl rfl ?_
      refine R_aload_n (p := 484) rfl l2 rfl ?_
      refine R_aload_n (p := 485) rfl l0 rfl ?_
      refine R_iload_n (p := 486) rfl l3 rfl ?_
      refine R_iconst (p := 487) rfl ki_1 rfl ?_
      refine R_iadd (p := 488) rfl rfl ?_
      obtain ⟨q59, eq59, h⟩ := bind_some h
      refine R_ialc (p := 489) (l := xs) rfl rfl eq59 rfl ?_
      refine R_aload_n (p := 490) rfl l0 rfl ?_
      refine R_iload_n (p := 491) rfl l3 rfl ?_
      refine R_iconst (p := 492) rfl ki_2 rfl ?_
      refine R_iadd (p := 493) rfl rfl ?_
      obtain ⟨q60, eq60, h⟩ := bind_some h
      refine R_ialc (p := 494) (l := xs) rfl rfl eq60 rfl ?_
      refine R_aload_n (p := 495) rfl l0 rfl ?_
      refine R_iload_n (p := 496) rfl l3 rfl ?_
      refine R_iconst (p := 497) rfl ki_3 rfl ?_
      refine R_iadd (p := 498) rfl rfl ?_
      obtain ⟨q61, eq61, h⟩ := bind_some h
      refine R_ialc (p := 499) (l := xs) rfl rfl eq61 rfl ?_
      obtain ⟨q62, eq62, h⟩ := bind_some h
      refine R_cV4v (p := 502) (hK.2 (q58.2, s.2.2).1) rfl rfl (tfX9_end (hK.2 (q58.2, s.2.2).1) (Nat.le_trans (by decide) hd) eq62) rfl rfl ?_
      refine R_popi (p := 503) rfl rfl ?_
      refine R_goto rfl ?_
      refine R_iinc (p := 1478) rfl l3 rfl ki_6 rfl ?_
      refine R_goto rfl ?_
      obtain rfl := Option.some.inj h
      exact hq _ (jg_ne l0 rfl) (jg_ne l1 rfl) (jg_ne l2 rfl) jg_self
    replace h := ite_f h n63
    by_cases n72 : (q1 &&& (63 : Int32)) = (8 : Int32)
    · replace h := ite_t h n72
      refine R_tsw (p := 506) rfl rfl (by rw [n72]; decide +kernel) ?_
      refine R_aload_n (p := 507) rfl l1 rfl ?_
      refine R_aload_n (p := 508) rfl l0 rfl ?_
      refine R_iload_n (p := 509) rfl l3 rfl ?_
      refine R_iconst (p := 510) rfl ki_1 rfl ?_
      refine R_iadd (p := 511) rfl rfl ?_
      obtain ⟨q64, eq64, h⟩ := bind_some h
      refine R_ialc (p := 512) (l := xs) rfl rfl eq64 rfl ?_
      refine R_aload_n (p := 513) rfl l0 rfl ?_
      refine R_iload_n (p := 514) rfl l3 rfl ?_
      refine R_iconst (p := 515) rfl ki_2 rfl ?_
      refine R_iadd (p := 516) rfl rfl ?_
      obtain ⟨q65, eq65, h⟩ := bind_some h
      refine R_ialc (p := 517) (l := xs) rfl rfl eq65 rfl ?_
      refine R_aload_n (p := 518) rfl l0 rfl ?_
      refine R_iload_n (p := 519) rfl l3 rfl ?_
      refine R_iconst (p := 520) rfl ki_3 rfl ?_
      refine R_iadd (p := 521) rfl rfl ?_
      obtain ⟨q66, eq66, h⟩ := bind_some h
      refine R_ialc (p := 522) (l := xs) rfl rfl eq66 rfl ?_
      obtain ⟨q67, eq67, h⟩ := bind_some h
      refine R_cV4v (p := 525) (hK.1 s.2.2) rfl rfl (tfX8_can (hK.1 s.2.2) (Nat.le_trans (by decide) hd) eq67) rfl rfl ?_
      refine R_popi (p := 526) rfl rfl ?_
      refine R_aload_n (p := 527) rfl l2 rfl ?_
      refine R_aload_n (p := 528) rfl l0 rfl ?_
      refine R_iload_n (p := 529) rfl l3 rfl ?_
      refine R_iconst (p := 530) rfl ki_1 rfl ?_
      refine R_iadd (p := 531) rfl rfl ?_
      obtain ⟨q68, eq68, h⟩ := bind_some h
      refine R_ialc (p := 532) (l := xs) rfl rfl eq68 rfl ?_
      refine R_aload_n (p := 533) rfl l0 rfl ?_
      refine R_iload_n (p := 534) rfl l3 rfl ?_
      refine R_iconst (p := 535) rfl ki_2 rfl ?_
      refine R_iadd (p := 536) rfl rfl ?_
      obtain ⟨q69, eq69, h⟩ := bind_some h
      refine R_ialc (p := 537) (l := xs) rfl rfl eq69 rfl ?_
      refine R_aload_n (p := 538) rfl l0 rfl ?_
      refine R_iload_n (p := 539) rfl l3 rfl ?_
      refine R_iconst (p := 540) rfl ki_3 rfl ?_
      refine R_iadd (p := 541) rfl rfl ?_
      obtain ⟨q70, eq70, h⟩ := bind_some h
      refine R_ialc (p := 542) (l := xs) rfl rfl eq70 rfl ?_
      obtain ⟨q71, eq71, h⟩ := bind_some h
      refine R_cV4v (p := 545) (hK.2 (q67.2, s.2.2).1) rfl rfl (tfX9_can (hK.2 (q67.2, s.2.2).1) (Nat.le_trans (by decide) hd) eq71) rfl rfl ?_
      refine R_popi (p := 546) rfl rfl ?_
      refine R_goto rfl ?_
      refine R_iinc (p := 1478) rfl l3 rfl ki_6 rfl ?_
      refine R_goto rfl ?_
      obtain rfl := Option.some.inj h
      exact hq _ (jg_ne l0 rfl) (jg_ne l1 rfl) (jg_ne l2 rfl) jg_self
    replace h := ite_f h n72
    by_cases n79 : (q1 &&& (63 : Int32)) = (9 : Int32)
    · replace h := ite_t h n79
      refine R_tsw (p := 549) rfl rfl (by rw [n79]; decide +kernel) ?_
      refine R_aload_n (p := 550) rfl l1 rfl ?_
      refine R_aload_n (p := 551) rfl l0 rfl ?_
      refine R_iload_n (p := 552) rfl l3 rfl ?_
      refine R_iconst (p := 553) rfl ki_1 rfl ?_
      refine R_iadd (p := 554) rfl rfl ?_
      obtain ⟨q73, eq73, h⟩ := bind_some h
      refine R_ialc (p := 555) (l := xs) rfl rfl eq73 rfl ?_
      refine R_aload_n (p := 556) rfl l0 rfl ?_
      refine R_iload_n (p := 557) rfl l3 rfl ?_
      refine R_iconst (p := 558) rfl ki_2 rfl ?_
      refine R_iadd (p := 559) rfl rfl ?_
      obtain ⟨q74, eq74, h⟩ := bind_some h
      refine R_ialc (p := 560) (l := xs) rfl rfl eq74 rfl ?_
      obtain ⟨q75, eq75, h⟩ := bind_some h
      refine R_cV3v (p := 563) (hK.1 s.2.2) rfl rfl (tfX8_turn (hK.1 s.2.2) (Nat.le_trans (by decide) hd) eq75) rfl rfl ?_
      refine R_popi (p := 564) rfl rfl ?_
      refine R_aload_n (p := 565) rfl l2 rfl ?_
      refine R_aload_n (p := 566) rfl l0 rfl ?_
      refine R_iload_n (p := 567) rfl l3 rfl ?_
      refine R_iconst (p := 568) rfl ki_1 rfl ?_
      refine R_iadd (p := 569) rfl rfl ?_
      obtain ⟨q76, eq76, h⟩ := bind_some h
      refine R_ialc (p := 570) (l := xs) rfl rfl eq76 rfl ?_
      refine R_aload_n (p := 571) rfl l0 rfl ?_
      refine R_iload_n (p := 572) rfl l3 rfl ?_
      refine R_iconst (p := 573) rfl ki_2 rfl ?_
      refine R_iadd (p := 574) rfl rfl ?_
      obtain ⟨q77, eq77, h⟩ := bind_some h
      refine R_ialc (p := 575) (l := xs) rfl rfl eq77 rfl ?_
      obtain ⟨q78, eq78, h⟩ := bind_some h
      refine R_cV3v (p := 578) (hK.2 (q75.2, s.2.2).1) rfl rfl (tfX9_turn (hK.2 (q75.2, s.2.2).1) (Nat.le_trans (by decide) hd) eq78) rfl rfl ?_
      refine R_popi (p := 579) rfl rfl ?_
      refine R_goto rfl ?_
      refine R_iinc (p := 1478) rfl l3 rfl ki_6 rfl ?_
      refine R_goto rfl ?_
      obtain rfl := Option.some.inj h
      exact hq _ (jg_ne l0 rfl) (jg_ne l1 rfl) (jg_ne l2 rfl) jg_self
    replace h := ite_f h n79
    by_cases n84 : (q1 &&& (63 : Int32)) = (10 : Int32)
    · replace h := ite_t h n84
      refine R_tsw (p := 582) rfl rfl (by rw [n84]; decide +kernel) ?_
      refine R_aload_n (p := 583) rfl l1 rfl ?_
      refine R_aload_n (p := 584) rfl l0 rfl ?_
      refine R_iload_n (p := 585) rfl l3 rfl ?_
      refine R_iconst (p := 586) rfl ki_1 rfl ?_
      refine R_iadd (p := 587) rfl rfl ?_
      obtain ⟨q80, eq80, h⟩ := bind_some h
      refine R_ialc (p := 588) (l := xs) rfl rfl eq80 rfl ?_
      obtain ⟨q81, eq81, h⟩ := bind_some h
      refine R_cV2v (p := 591) (hK.1 s.2.2) rfl rfl (tfX8_vanish (hK.1 s.2.2) (Nat.le_trans (by decide) hd) eq81) rfl rfl ?_
      refine R_popi (p := 592) rfl rfl ?_
      refine R_aload_n (p := 593) rfl l2 rfl ?_
      refine R_aload_n (p := 594) rfl l0 rfl ?_
      refine R_iload_n (p := 595) rfl l3 rfl ?_
      refine R_iconst (p := 596) rfl ki_1 rfl ?_
      refine R_iadd (p := 597) rfl rfl ?_
      obtain ⟨q82, eq82, h⟩ := bind_some h
      refine R_ialc (p := 598) (l := xs) rfl rfl eq82 rfl ?_
      obtain ⟨q83, eq83, h⟩ := bind_some h
      refine R_cV2v (p := 601) (hK.2 (q81.2, s.2.2).1) rfl rfl (tfX9_vanish (hK.2 (q81.2, s.2.2).1) (Nat.le_trans (by decide) hd) eq83) rfl rfl ?_
      refine R_popi (p := 602) rfl rfl ?_
      refine R_goto rfl ?_
      refine R_iinc (p := 1478) rfl l3 rfl ki_6 rfl ?_
      refine R_goto rfl ?_
      obtain rfl := Option.some.inj h
      exact hq _ (jg_ne l0 rfl) (jg_ne l1 rfl) (jg_ne l2 rfl) jg_self
    replace h := ite_f h n84
    by_cases n91 : (q1 &&& (63 : Int32)) = (11 : Int32)
    · replace h := ite_t h n91
      refine R_tsw (p := 605) rfl rfl (by rw [n91]; decide +kernel) ?_
      refine R_aload_n (p := 606) rfl l1 rfl ?_
      refine R_aload_n (p := 607) rfl l0 rfl ?_
      refine R_iload_n (p := 608) rfl l3 rfl ?_
      refine R_iconst (p := 609) rfl ki_1 rfl ?_
      refine R_iadd (p := 610) rfl rfl ?_
      obtain ⟨q85, eq85, h⟩ := bind_some h
      refine R_ialc (p := 611) (l := xs) rfl rfl eq85 rfl ?_
      refine R_aload_n (p := 612) rfl l0 rfl ?_
      refine R_iload_n (p := 613) rfl l3 rfl ?_
      refine R_iconst (p := 614) rfl ki_2 rfl ?_
      refine R_iadd (p := 615) rfl rfl ?_
      obtain ⟨q86, eq86, h⟩ := bind_some h
      refine R_ialc (p := 616) (l := xs) rfl rfl eq86 rfl ?_
      obtain ⟨q87, eq87, h⟩ := bind_some h
      refine R_cV3v (p := 619) (hK.1 s.2.2) rfl rfl (tfX8_burst (hK.1 s.2.2) (Nat.le_trans (by decide) hd) eq87) rfl rfl ?_
      refine R_popi (p := 620) rfl rfl ?_
      refine R_aload_n (p := 621) rfl l2 rfl ?_
      refine R_aload_n (p := 622) rfl l0 rfl ?_
      refine R_iload_n (p := 623) rfl l3 rfl ?_
      refine R_iconst (p := 624) rfl ki_1 rfl ?_
      refine R_iadd (p := 625) rfl rfl ?_
      obtain ⟨q88, eq88, h⟩ := bind_some h
      refine R_ialc (p := 626) (l := xs) rfl rfl eq88 rfl ?_
      refine R_aload_n (p := 627) rfl l0 rfl ?_
      refine R_iload_n (p := 628) rfl l3 rfl ?_
      refine R_iconst (p := 629) rfl ki_2 rfl ?_
      refine R_iadd (p := 630) rfl rfl ?_
      obtain ⟨q89, eq89, h⟩ := bind_some h
      refine R_ialc (p := 631) (l := xs) rfl rfl eq89 rfl ?_
      obtain ⟨q90, eq90, h⟩ := bind_some h
      refine R_cV3v (p := 634) (hK.2 (q87.2, s.2.2).1) rfl rfl (tfX9_burst (hK.2 (q87.2, s.2.2).1) (Nat.le_trans (by decide) hd) eq90) rfl rfl ?_
      refine R_popi (p := 635) rfl rfl ?_
      refine R_goto rfl ?_
      refine R_iinc (p := 1478) rfl l3 rfl ki_6 rfl ?_
      refine R_goto rfl ?_
      obtain rfl := Option.some.inj h
      exact hq _ (jg_ne l0 rfl) (jg_ne l1 rfl) (jg_ne l2 rfl) jg_self
    replace h := ite_f h n91
    by_cases n100 : (q1 &&& (63 : Int32)) = (12 : Int32)
    · replace h := ite_t h n100
      refine R_tsw (p := 638) rfl rfl (by rw [n100]; decide +kernel) ?_
      refine R_aload_n (p := 639) rfl l1 rfl ?_
      refine R_aload_n (p := 640) rfl l0 rfl ?_
      refine R_iload_n (p := 641) rfl l3 rfl ?_
      refine R_iconst (p := 642) rfl ki_1 rfl ?_
      refine R_iadd (p := 643) rfl rfl ?_
      obtain ⟨q92, eq92, h⟩ := bind_some h
      refine R_ialc (p := 644) (l := xs) rfl rfl eq92 rfl ?_
      refine R_i2l (p := 645) rfl rfl ?_
      refine R_bipush (p := 647) rfl kb_32 rfl ?_
      refine R_lshl (p := 648) rfl rfl ?_
      refine R_aload_n (p := 649) rfl l0 rfl ?_
      refine R_iload_n (p := 650) rfl l3 rfl ?_
      refine R_iconst (p := 651) rfl ki_2 rfl ?_
      refine R_iadd (p := 652) rfl rfl ?_
      obtain ⟨q93, eq93, h⟩ := bind_some h
      refine R_ialc (p := 653) (l := xs) rfl rfl eq93 rfl ?_
      refine R_i2l (p := 654) rfl rfl ?_
      refine R_ldc2_w (p := 657) rfl rfl ?_
      refine R_land (p := 658) rfl rfl ?_
      refine R_lor (p := 659) rfl rfl ?_
      refine R_aload_n (p := 660) rfl l0 rfl ?_
      refine R_iload_n (p := 661) rfl l3 rfl ?_
      refine R_iconst (p := 662) rfl ki_3 rfl ?_
      refine R_iadd (p := 663) rfl rfl ?_
      obtain ⟨q94, eq94, h⟩ := bind_some h
      refine R_ialc (p := 664) (l := xs) rfl rfl eq94 rfl ?_
      obtain ⟨q95, eq95, h⟩ := bind_some h
      refine R_cV3v (p := 667) (hK.1 s.2.2) rfl rfl (tfX8_feed (hK.1 s.2.2) (Nat.le_trans (by decide) hd) eq95) rfl rfl ?_
      refine R_popi (p := 668) rfl rfl ?_
      refine R_aload_n (p := 669) rfl l2 rfl ?_
      refine R_aload_n (p := 670) rfl l0 rfl ?_
      refine R_iload_n (p := 671) rfl l3 rfl ?_
      refine R_iconst (p := 672) rfl ki_1 rfl ?_
      refine R_iadd (p := 673) rfl rfl ?_
      obtain ⟨q96, eq96, h⟩ := bind_some h
      refine R_ialc (p := 674) (l := xs) rfl rfl eq96 rfl ?_
      refine R_i2l (p := 675) rfl rfl ?_
      refine R_bipush (p := 677) rfl kb_32 rfl ?_
      refine R_lshl (p := 678) rfl rfl ?_
      refine R_aload_n (p := 679) rfl l0 rfl ?_
      refine R_iload_n (p := 680) rfl l3 rfl ?_
      refine R_iconst (p := 681) rfl ki_2 rfl ?_
      refine R_iadd (p := 682) rfl rfl ?_
      obtain ⟨q97, eq97, h⟩ := bind_some h
      refine R_ialc (p := 683) (l := xs) rfl rfl eq97 rfl ?_
      refine R_i2l (p := 684) rfl rfl ?_
      refine R_ldc2_w (p := 687) rfl rfl ?_
      refine R_land (p := 688) rfl rfl ?_
      refine R_lor (p := 689) rfl rfl ?_
      refine R_aload_n (p := 690) rfl l0 rfl ?_
      refine R_iload_n (p := 691) rfl l3 rfl ?_
      refine R_iconst (p := 692) rfl ki_3 rfl ?_
      refine R_iadd (p := 693) rfl rfl ?_
      obtain ⟨q98, eq98, h⟩ := bind_some h
      refine R_ialc (p := 694) (l := xs) rfl rfl eq98 rfl ?_
      obtain ⟨q99, eq99, h⟩ := bind_some h
      refine R_cV3v (p := 697) (hK.2 (q95.2, s.2.2).1) rfl rfl (tfX9_feed (hK.2 (q95.2, s.2.2).1) (Nat.le_trans (by decide) hd) eq99) rfl rfl ?_
      refine R_popi (p := 698) rfl rfl ?_
      refine R_goto rfl ?_
      refine R_iinc (p := 1478) rfl l3 rfl ki_6 rfl ?_
      refine R_goto rfl ?_
      obtain rfl := Option.some.inj h
      exact hq _ (jg_ne l0 rfl) (jg_ne l1 rfl) (jg_ne l2 rfl) jg_self
    replace h := ite_f h n100
    by_cases n105 : (q1 &&& (63 : Int32)) = (13 : Int32)
    · replace h := ite_t h n105
      refine R_tsw (p := 701) rfl rfl (by rw [n105]; decide +kernel) ?_
      refine R_aload_n (p := 702) rfl l1 rfl ?_
      refine R_aload_n (p := 703) rfl l0 rfl ?_
      refine R_iload_n (p := 704) rfl l3 rfl ?_
      refine R_iconst (p := 705) rfl ki_1 rfl ?_
      refine R_iadd (p := 706) rfl rfl ?_
      obtain ⟨q101, eq101, h⟩ := bind_some h
      refine R_ialc (p := 707) (l := xs) rfl rfl eq101 rfl ?_
      obtain ⟨q102, eq102, h⟩ := bind_some h
      refine R_cV2v (p := 710) (hK.1 s.2.2) rfl rfl (tfX8_text (hK.1 s.2.2) (Nat.le_trans (by decide) hd) eq102) rfl rfl ?_
      refine R_popi (p := 711) rfl rfl ?_
      refine R_aload_n (p := 712) rfl l2 rfl ?_
      refine R_aload_n (p := 713) rfl l0 rfl ?_
      refine R_iload_n (p := 714) rfl l3 rfl ?_
      refine R_iconst (p := 715) rfl ki_1 rfl ?_
      refine R_iadd (p := 716) rfl rfl ?_
      obtain ⟨q103, eq103, h⟩ := bind_some h
      refine R_ialc (p := 717) (l := xs) rfl rfl eq103 rfl ?_
      obtain ⟨q104, eq104, h⟩ := bind_some h
      refine R_cV2v (p := 720) (hK.2 (q102.2, s.2.2).1) rfl rfl (tfX9_text (hK.2 (q102.2, s.2.2).1) (Nat.le_trans (by decide) hd) eq104) rfl rfl ?_
      refine R_popi (p := 721) rfl rfl ?_
      refine R_goto rfl ?_
      refine R_iinc (p := 1478) rfl l3 rfl ki_6 rfl ?_
      refine R_goto rfl ?_
      obtain rfl := Option.some.inj h
      exact hq _ (jg_ne l0 rfl) (jg_ne l1 rfl) (jg_ne l2 rfl) jg_self
    replace h := ite_f h n105
    by_cases n110 : (q1 &&& (63 : Int32)) = (14 : Int32)
    · replace h := ite_t h n110
      refine R_tsw (p := 724) rfl rfl (by rw [n110]; decide +kernel) ?_
      refine R_aload_n (p := 725) rfl l1 rfl ?_
      refine R_aload_n (p := 726) rfl l0 rfl ?_
      refine R_iload_n (p := 727) rfl l3 rfl ?_
      refine R_iconst (p := 728) rfl ki_1 rfl ?_
      refine R_iadd (p := 729) rfl rfl ?_
      obtain ⟨q106, eq106, h⟩ := bind_some h
      refine R_ialc (p := 730) (l := xs) rfl rfl eq106 rfl ?_
      obtain ⟨q107, eq107, h⟩ := bind_some h
      refine R_cV2v (p := 733) (hK.1 s.2.2) rfl rfl (tfX8_untell (hK.1 s.2.2) (Nat.le_trans (by decide) hd) eq107) rfl rfl ?_
      refine R_popi (p := 734) rfl rfl ?_
      refine R_aload_n (p := 735) rfl l2 rfl ?_
      refine R_aload_n (p := 736) rfl l0 rfl ?_
      refine R_iload_n (p := 737) rfl l3 rfl ?_
      refine R_iconst (p := 738) rfl ki_1 rfl ?_
      refine R_iadd (p := 739) rfl rfl ?_
      obtain ⟨q108, eq108, h⟩ := bind_some h
      refine R_ialc (p := 740) (l := xs) rfl rfl eq108 rfl ?_
      obtain ⟨q109, eq109, h⟩ := bind_some h
      refine R_cV2v (p := 743) (hK.2 (q107.2, s.2.2).1) rfl rfl (tfX9_untell (hK.2 (q107.2, s.2.2).1) (Nat.le_trans (by decide) hd) eq109) rfl rfl ?_
      refine R_popi (p := 744) rfl rfl ?_
      refine R_goto rfl ?_
      refine R_iinc (p := 1478) rfl l3 rfl ki_6 rfl ?_
      refine R_goto rfl ?_
      obtain rfl := Option.some.inj h
      exact hq _ (jg_ne l0 rfl) (jg_ne l1 rfl) (jg_ne l2 rfl) jg_self
    replace h := ite_f h n110
    by_cases n117 : (q1 &&& (63 : Int32)) = (15 : Int32)
    · replace h := ite_t h n117
      refine R_tsw (p := 747) rfl rfl (by rw [n117]; decide +kernel) ?_
      refine R_aload_n (p := 748) rfl l1 rfl ?_
      refine R_aload_n (p := 749) rfl l0 rfl ?_
      refine R_iload_n (p := 750) rfl l3 rfl ?_
      refine R_iconst (p := 751) rfl ki_1 rfl ?_
      refine R_iadd (p := 752) rfl rfl ?_
      obtain ⟨q111, eq111, h⟩ := bind_some h
      refine R_ialc (p := 753) (l := xs) rfl rfl eq111 rfl ?_
      refine R_aload_n (p := 754) rfl l0 rfl ?_
      refine R_iload_n (p := 755) rfl l3 rfl ?_
      refine R_iconst (p := 756) rfl ki_2 rfl ?_
      refine R_iadd (p := 757) rfl rfl ?_
      obtain ⟨q112, eq112, h⟩ := bind_some h
      refine R_ialc (p := 758) (l := xs) rfl rfl eq112 rfl ?_
      obtain ⟨q113, eq113, h⟩ := bind_some h
      refine R_cV3v (p := 761) (hK.1 s.2.2) rfl rfl (tfX8_rule (hK.1 s.2.2) (Nat.le_trans (by decide) hd) eq113) rfl rfl ?_
      refine R_popi (p := 762) rfl rfl ?_
      refine R_aload_n (p := 763) rfl l2 rfl ?_
      refine R_aload_n (p := 764) rfl l0 rfl ?_
      refine R_iload_n (p := 765) rfl l3 rfl ?_
      refine R_iconst (p := 766) rfl ki_1 rfl ?_
      refine R_iadd (p := 767) rfl rfl ?_
      obtain ⟨q114, eq114, h⟩ := bind_some h
      refine R_ialc (p := 768) (l := xs) rfl rfl eq114 rfl ?_
      refine R_aload_n (p := 769) rfl l0 rfl ?_
      refine R_iload_n (p := 770) rfl l3 rfl ?_
      refine R_iconst (p := 771) rfl ki_2 rfl ?_
      refine R_iadd (p := 772) rfl rfl ?_
      obtain ⟨q115, eq115, h⟩ := bind_some h
      refine R_ialc (p := 773) (l := xs) rfl rfl eq115 rfl ?_
      obtain ⟨q116, eq116, h⟩ := bind_some h
      refine R_cV3v (p := 776) (hK.2 (q113.2, s.2.2).1) rfl rfl (tfX9_rule (hK.2 (q113.2, s.2.2).1) (Nat.le_trans (by decide) hd) eq116) rfl rfl ?_
      refine R_popi (p := 777) rfl rfl ?_
      refine R_goto rfl ?_
      refine R_iinc (p := 1478) rfl l3 rfl ki_6 rfl ?_
      refine R_goto rfl ?_
      obtain rfl := Option.some.inj h
      exact hq _ (jg_ne l0 rfl) (jg_ne l1 rfl) (jg_ne l2 rfl) jg_self
    replace h := ite_f h n117
    by_cases n124 : (q1 &&& (63 : Int32)) = (16 : Int32)
    · replace h := ite_t h n124
      refine R_tsw (p := 780) rfl rfl (by rw [n124]; decide +kernel) ?_
      refine R_aload_n (p := 781) rfl l1 rfl ?_
      refine R_aload_n (p := 782) rfl l0 rfl ?_
      refine R_iload_n (p := 783) rfl l3 rfl ?_
      refine R_iconst (p := 784) rfl ki_1 rfl ?_
      refine R_iadd (p := 785) rfl rfl ?_
      obtain ⟨q118, eq118, h⟩ := bind_some h
      refine R_ialc (p := 786) (l := xs) rfl rfl eq118 rfl ?_
      refine R_aload_n (p := 787) rfl l0 rfl ?_
      refine R_iload_n (p := 788) rfl l3 rfl ?_
      refine R_iconst (p := 789) rfl ki_2 rfl ?_
      refine R_iadd (p := 790) rfl rfl ?_
      obtain ⟨q119, eq119, h⟩ := bind_some h
      refine R_ialc (p := 791) (l := xs) rfl rfl eq119 rfl ?_
      obtain ⟨q120, eq120, h⟩ := bind_some h
      refine R_cV3v (p := 794) (hK.1 s.2.2) rfl rfl (tfX8_passes (hK.1 s.2.2) (Nat.le_trans (by decide) hd) eq120) rfl rfl ?_
      refine R_popi (p := 795) rfl rfl ?_
      refine R_aload_n (p := 796) rfl l2 rfl ?_
      refine R_aload_n (p := 797) rfl l0 rfl ?_
      refine R_iload_n (p := 798) rfl l3 rfl ?_
      refine R_iconst (p := 799) rfl ki_1 rfl ?_
      refine R_iadd (p := 800) rfl rfl ?_
      obtain ⟨q121, eq121, h⟩ := bind_some h
      refine R_ialc (p := 801) (l := xs) rfl rfl eq121 rfl ?_
      refine R_aload_n (p := 802) rfl l0 rfl ?_
      refine R_iload_n (p := 803) rfl l3 rfl ?_
      refine R_iconst (p := 804) rfl ki_2 rfl ?_
      refine R_iadd (p := 805) rfl rfl ?_
      obtain ⟨q122, eq122, h⟩ := bind_some h
      refine R_ialc (p := 806) (l := xs) rfl rfl eq122 rfl ?_
      obtain ⟨q123, eq123, h⟩ := bind_some h
      refine R_cV3v (p := 809) (hK.2 (q120.2, s.2.2).1) rfl rfl (tfX9_passes (hK.2 (q120.2, s.2.2).1) (Nat.le_trans (by decide) hd) eq123) rfl rfl ?_
      refine R_popi (p := 810) rfl rfl ?_
      refine R_goto rfl ?_
      refine R_iinc (p := 1478) rfl l3 rfl ki_6 rfl ?_
      refine R_goto rfl ?_
      obtain rfl := Option.some.inj h
      exact hq _ (jg_ne l0 rfl) (jg_ne l1 rfl) (jg_ne l2 rfl) jg_self
    replace h := ite_f h n124
    by_cases n129 : (q1 &&& (63 : Int32)) = (17 : Int32)
    · replace h := ite_t h n129
      refine R_tsw (p := 813) rfl rfl (by rw [n129]; decide +kernel) ?_
      refine R_aload_n (p := 814) rfl l1 rfl ?_
      refine R_aload_n (p := 815) rfl l0 rfl ?_
      refine R_iload_n (p := 816) rfl l3 rfl ?_
      refine R_iconst (p := 817) rfl ki_1 rfl ?_
      refine R_iadd (p := 818) rfl rfl ?_
      obtain ⟨q125, eq125, h⟩ := bind_some h
      refine R_ialc (p := 819) (l := xs) rfl rfl eq125 rfl ?_
      obtain ⟨q126, eq126, h⟩ := bind_some h
      refine R_cV2v (p := 822) (hK.1 s.2.2) rfl rfl (tfX8_tick (hK.1 s.2.2) (Nat.le_trans (by decide) hd) eq126) rfl rfl ?_
      refine R_popi (p := 823) rfl rfl ?_
      refine R_aload_n (p := 824) rfl l2 rfl ?_
      refine R_aload_n (p := 825) rfl l0 rfl ?_
      refine R_iload_n (p := 826) rfl l3 rfl ?_
      refine R_iconst (p := 827) rfl ki_1 rfl ?_
      refine R_iadd (p := 828) rfl rfl ?_
      obtain ⟨q127, eq127, h⟩ := bind_some h
      refine R_ialc (p := 829) (l := xs) rfl rfl eq127 rfl ?_
      obtain ⟨q128, eq128, h⟩ := bind_some h
      refine R_cV2v (p := 832) (hK.2 (q126.2, s.2.2).1) rfl rfl (tfX9_tick (hK.2 (q126.2, s.2.2).1) (Nat.le_trans (by decide) hd) eq128) rfl rfl ?_
      refine R_popi (p := 833) rfl rfl ?_
      refine R_goto rfl ?_
      refine R_iinc (p := 1478) rfl l3 rfl ki_6 rfl ?_
      refine R_goto rfl ?_
      obtain rfl := Option.some.inj h
      exact hq _ (jg_ne l0 rfl) (jg_ne l1 rfl) (jg_ne l2 rfl) jg_self
    replace h := ite_f h n129
    by_cases n136 : (q1 &&& (63 : Int32)) = (18 : Int32)
    · replace h := ite_t h n136
      refine R_tsw (p := 836) rfl rfl (by rw [n136]; decide +kernel) ?_
      refine R_aload_n (p := 837) rfl l1 rfl ?_
      refine R_aload_n (p := 838) rfl l0 rfl ?_
      refine R_iload_n (p := 839) rfl l3 rfl ?_
      refine R_iconst (p := 840) rfl ki_1 rfl ?_
      refine R_iadd (p := 841) rfl rfl ?_
      obtain ⟨q130, eq130, h⟩ := bind_some h
      refine R_ialc (p := 842) (l := xs) rfl rfl eq130 rfl ?_
      refine R_aload_n (p := 843) rfl l0 rfl ?_
      refine R_iload_n (p := 844) rfl l3 rfl ?_
      refine R_iconst (p := 845) rfl ki_2 rfl ?_
      refine R_iadd (p := 846) rfl rfl ?_
      obtain ⟨q131, eq131, h⟩ := bind_some h
      refine R_ialc (p := 847) (l := xs) rfl rfl eq131 rfl ?_
      obtain ⟨q132, eq132, h⟩ := bind_some h
      refine R_cV3v (p := 850) (hK.1 s.2.2) rfl rfl (tfX8_stands (hK.1 s.2.2) (Nat.le_trans (by decide) hd) eq132) rfl rfl ?_
      refine R_popi (p := 851) rfl rfl ?_
      refine R_aload_n (p := 852) rfl l2 rfl ?_
      refine R_aload_n (p := 853) rfl l0 rfl ?_
      refine R_iload_n (p := 854) rfl l3 rfl ?_
      refine R_iconst (p := 855) rfl ki_1 rfl ?_
      refine R_iadd (p := 856) rfl rfl ?_
      obtain ⟨q133, eq133, h⟩ := bind_some h
      refine R_ialc (p := 857) (l := xs) rfl rfl eq133 rfl ?_
      refine R_aload_n (p := 858) rfl l0 rfl ?_
      refine R_iload_n (p := 859) rfl l3 rfl ?_
      refine R_iconst (p := 860) rfl ki_2 rfl ?_
      refine R_iadd (p := 861) rfl rfl ?_
      obtain ⟨q134, eq134, h⟩ := bind_some h
      refine R_ialc (p := 862) (l := xs) rfl rfl eq134 rfl ?_
      obtain ⟨q135, eq135, h⟩ := bind_some h
      refine R_cV3v (p := 865) (hK.2 (q132.2, s.2.2).1) rfl rfl (tfX9_stands (hK.2 (q132.2, s.2.2).1) (Nat.le_trans (by decide) hd) eq135) rfl rfl ?_
      refine R_popi (p := 866) rfl rfl ?_
      refine R_goto rfl ?_
      refine R_iinc (p := 1478) rfl l3 rfl ki_6 rfl ?_
      refine R_goto rfl ?_
      obtain rfl := Option.some.inj h
      exact hq _ (jg_ne l0 rfl) (jg_ne l1 rfl) (jg_ne l2 rfl) jg_self
    replace h := ite_f h n136
    by_cases n141 : (q1 &&& (63 : Int32)) = (19 : Int32)
    · replace h := ite_t h n141
      refine R_tsw (p := 869) rfl rfl (by rw [n141]; decide +kernel) ?_
      refine R_aload_n (p := 870) rfl l1 rfl ?_
      refine R_aload_n (p := 871) rfl l0 rfl ?_
      refine R_iload_n (p := 872) rfl l3 rfl ?_
      refine R_iconst (p := 873) rfl ki_1 rfl ?_
      refine R_iadd (p := 874) rfl rfl ?_
      obtain ⟨q137, eq137, h⟩ := bind_some h
      refine R_ialc (p := 875) (l := xs) rfl rfl eq137 rfl ?_
      obtain ⟨q138, eq138, h⟩ := bind_some h
      refine R_cV2v (p := 878) (hK.1 s.2.2) rfl rfl (tfX8_seed (hK.1 s.2.2) (Nat.le_trans (by decide) hd) eq138) rfl rfl ?_
      refine R_popi (p := 879) rfl rfl ?_
      refine R_aload_n (p := 880) rfl l2 rfl ?_
      refine R_aload_n (p := 881) rfl l0 rfl ?_
      refine R_iload_n (p := 882) rfl l3 rfl ?_
      refine R_iconst (p := 883) rfl ki_1 rfl ?_
      refine R_iadd (p := 884) rfl rfl ?_
      obtain ⟨q139, eq139, h⟩ := bind_some h
      refine R_ialc (p := 885) (l := xs) rfl rfl eq139 rfl ?_
      obtain ⟨q140, eq140, h⟩ := bind_some h
      refine R_cV2v (p := 888) (hK.2 (q138.2, s.2.2).1) rfl rfl (tfX9_seed (hK.2 (q138.2, s.2.2).1) (Nat.le_trans (by decide) hd) eq140) rfl rfl ?_
      refine R_popi (p := 889) rfl rfl ?_
      refine R_goto rfl ?_
      refine R_iinc (p := 1478) rfl l3 rfl ki_6 rfl ?_
      refine R_goto rfl ?_
      obtain rfl := Option.some.inj h
      exact hq _ (jg_ne l0 rfl) (jg_ne l1 rfl) (jg_ne l2 rfl) jg_self
    replace h := ite_f h n141
    by_cases n146 : (q1 &&& (63 : Int32)) = (20 : Int32)
    · replace h := ite_t h n146
      refine R_tsw (p := 892) rfl rfl (by rw [n146]; decide +kernel) ?_
      refine R_aload_n (p := 893) rfl l1 rfl ?_
      refine R_aload_n (p := 894) rfl l0 rfl ?_
      refine R_iload_n (p := 895) rfl l3 rfl ?_
      refine R_iconst (p := 896) rfl ki_1 rfl ?_
      refine R_iadd (p := 897) rfl rfl ?_
      obtain ⟨q142, eq142, h⟩ := bind_some h
      refine R_ialc (p := 898) (l := xs) rfl rfl eq142 rfl ?_
      obtain ⟨q143, eq143, h⟩ := bind_some h
      refine R_cV2v (p := 901) (hK.1 s.2.2) rfl rfl (tfX8_all (hK.1 s.2.2) (Nat.le_trans (by decide) hd) eq143) rfl rfl ?_
      refine R_popi (p := 902) rfl rfl ?_
      refine R_aload_n (p := 903) rfl l2 rfl ?_
      refine R_aload_n (p := 904) rfl l0 rfl ?_
      refine R_iload_n (p := 905) rfl l3 rfl ?_
      refine R_iconst (p := 906) rfl ki_1 rfl ?_
      refine R_iadd (p := 907) rfl rfl ?_
      obtain ⟨q144, eq144, h⟩ := bind_some h
      refine R_ialc (p := 908) (l := xs) rfl rfl eq144 rfl ?_
      obtain ⟨q145, eq145, h⟩ := bind_some h
      refine R_cV2v (p := 911) (hK.2 (q143.2, s.2.2).1) rfl rfl (tfX9_all (hK.2 (q143.2, s.2.2).1) (Nat.le_trans (by decide) hd) eq145) rfl rfl ?_
      refine R_popi (p := 912) rfl rfl ?_
      refine R_goto rfl ?_
      refine R_iinc (p := 1478) rfl l3 rfl ki_6 rfl ?_
      refine R_goto rfl ?_
      obtain rfl := Option.some.inj h
      exact hq _ (jg_ne l0 rfl) (jg_ne l1 rfl) (jg_ne l2 rfl) jg_self
    replace h := ite_f h n146
    by_cases n151 : (q1 &&& (63 : Int32)) = (21 : Int32)
    · replace h := ite_t h n151
      refine R_tsw (p := 915) rfl rfl (by rw [n151]; decide +kernel) ?_
      refine R_aload_n (p := 916) rfl l1 rfl ?_
      refine R_aload_n (p := 917) rfl l0 rfl ?_
      refine R_iload_n (p := 918) rfl l3 rfl ?_
      refine R_iconst (p := 919) rfl ki_1 rfl ?_
      refine R_iadd (p := 920) rfl rfl ?_
      obtain ⟨q147, eq147, h⟩ := bind_some h
      refine R_ialc (p := 921) (l := xs) rfl rfl eq147 rfl ?_
      obtain ⟨q148, eq148, h⟩ := bind_some h
      refine R_cV2v (p := 924) (hK.1 s.2.2) rfl rfl (tfX8_pace (hK.1 s.2.2) (Nat.le_trans (by decide) hd) eq148) rfl rfl ?_
      refine R_popi (p := 925) rfl rfl ?_
      refine R_aload_n (p := 926) rfl l2 rfl ?_
      refine R_aload_n (p := 927) rfl l0 rfl ?_
      refine R_iload_n (p := 928) rfl l3 rfl ?_
      refine R_iconst (p := 929) rfl ki_1 rfl ?_
      refine R_iadd (p := 930) rfl rfl ?_
      obtain ⟨q149, eq149, h⟩ := bind_some h
      refine R_ialc (p := 931) (l := xs) rfl rfl eq149 rfl ?_
      obtain ⟨q150, eq150, h⟩ := bind_some h
      refine R_cV2v (p := 934) (hK.2 (q148.2, s.2.2).1) rfl rfl (tfX9_pace (hK.2 (q148.2, s.2.2).1) (Nat.le_trans (by decide) hd) eq150) rfl rfl ?_
      refine R_popi (p := 935) rfl rfl ?_
      refine R_goto rfl ?_
      refine R_iinc (p := 1478) rfl l3 rfl ki_6 rfl ?_
      refine R_goto rfl ?_
      obtain rfl := Option.some.inj h
      exact hq _ (jg_ne l0 rfl) (jg_ne l1 rfl) (jg_ne l2 rfl) jg_self
    replace h := ite_f h n151
    by_cases n156 : (q1 &&& (63 : Int32)) = (22 : Int32)
    · replace h := ite_t h n156
      refine R_tsw (p := 938) rfl rfl (by rw [n156]; decide +kernel) ?_
      refine R_aload_n (p := 939) rfl l1 rfl ?_
      refine R_aload_n (p := 940) rfl l0 rfl ?_
      refine R_iload_n (p := 941) rfl l3 rfl ?_
      refine R_iconst (p := 942) rfl ki_1 rfl ?_
      refine R_iadd (p := 943) rfl rfl ?_
      obtain ⟨q152, eq152, h⟩ := bind_some h
      refine R_ialc (p := 944) (l := xs) rfl rfl eq152 rfl ?_
      obtain ⟨q153, eq153, h⟩ := bind_some h
      refine R_cV2v (p := 947) (hK.1 s.2.2) rfl rfl (tfX8_sides (hK.1 s.2.2) (Nat.le_trans (by decide) hd) eq153) rfl rfl ?_
      refine R_popi (p := 948) rfl rfl ?_
      refine R_aload_n (p := 949) rfl l2 rfl ?_
      refine R_aload_n (p := 950) rfl l0 rfl ?_
      refine R_iload_n (p := 951) rfl l3 rfl ?_
      refine R_iconst (p := 952) rfl ki_1 rfl ?_
      refine R_iadd (p := 953) rfl rfl ?_
      obtain ⟨q154, eq154, h⟩ := bind_some h
      refine R_ialc (p := 954) (l := xs) rfl rfl eq154 rfl ?_
      obtain ⟨q155, eq155, h⟩ := bind_some h
      refine R_cV2v (p := 957) (hK.2 (q153.2, s.2.2).1) rfl rfl (tfX9_sides (hK.2 (q153.2, s.2.2).1) (Nat.le_trans (by decide) hd) eq155) rfl rfl ?_
      refine R_popi (p := 958) rfl rfl ?_
      refine R_goto rfl ?_
      refine R_iinc (p := 1478) rfl l3 rfl ki_6 rfl ?_
      refine R_goto rfl ?_
      obtain rfl := Option.some.inj h
      exact hq _ (jg_ne l0 rfl) (jg_ne l1 rfl) (jg_ne l2 rfl) jg_self
    replace h := ite_f h n156
    by_cases n161 : (q1 &&& (63 : Int32)) = (23 : Int32)
    · replace h := ite_t h n161
      refine R_tsw (p := 961) rfl rfl (by rw [n161]; decide +kernel) ?_
      refine R_aload_n (p := 962) rfl l1 rfl ?_
      refine R_aload_n (p := 963) rfl l0 rfl ?_
      refine R_iload_n (p := 964) rfl l3 rfl ?_
      refine R_iconst (p := 965) rfl ki_1 rfl ?_
      refine R_iadd (p := 966) rfl rfl ?_
      obtain ⟨q157, eq157, h⟩ := bind_some h
      refine R_ialc (p := 967) (l := xs) rfl rfl eq157 rfl ?_
      obtain ⟨q158, eq158, h⟩ := bind_some h
      refine R_cV2v (p := 970) (hK.1 s.2.2) rfl rfl (tfX8_around (hK.1 s.2.2) (Nat.le_trans (by decide) hd) eq158) rfl rfl ?_
      refine R_popi (p := 971) rfl rfl ?_
      refine R_aload_n (p := 972) rfl l2 rfl ?_
      refine R_aload_n (p := 973) rfl l0 rfl ?_
      refine R_iload_n (p := 974) rfl l3 rfl ?_
      refine R_iconst (p := 975) rfl ki_1 rfl ?_
      refine R_iadd (p := 976) rfl rfl ?_
      obtain ⟨q159, eq159, h⟩ := bind_some h
      refine R_ialc (p := 977) (l := xs) rfl rfl eq159 rfl ?_
      obtain ⟨q160, eq160, h⟩ := bind_some h
      refine R_cV2v (p := 980) (hK.2 (q158.2, s.2.2).1) rfl rfl (tfX9_around (hK.2 (q158.2, s.2.2).1) (Nat.le_trans (by decide) hd) eq160) rfl rfl ?_
      refine R_popi (p := 981) rfl rfl ?_
      refine R_goto rfl ?_
      refine R_iinc (p := 1478) rfl l3 rfl ki_6 rfl ?_
      refine R_goto rfl ?_
      obtain rfl := Option.some.inj h
      exact hq _ (jg_ne l0 rfl) (jg_ne l1 rfl) (jg_ne l2 rfl) jg_self
    replace h := ite_f h n161
    by_cases n166 : (q1 &&& (63 : Int32)) = (24 : Int32)
    · replace h := ite_t h n166
      refine R_tsw (p := 984) rfl rfl (by rw [n166]; decide +kernel) ?_
      refine R_aload_n (p := 985) rfl l1 rfl ?_
      refine R_aload_n (p := 986) rfl l0 rfl ?_
      refine R_iload_n (p := 987) rfl l3 rfl ?_
      refine R_iconst (p := 988) rfl ki_1 rfl ?_
      refine R_iadd (p := 989) rfl rfl ?_
      obtain ⟨q162, eq162, h⟩ := bind_some h
      refine R_ialc (p := 990) (l := xs) rfl rfl eq162 rfl ?_
      obtain ⟨q163, eq163, h⟩ := bind_some h
      refine R_cV2v (p := 993) (hK.1 s.2.2) rfl rfl (tfX8_first (hK.1 s.2.2) (Nat.le_trans (by decide) hd) eq163) rfl rfl ?_
      refine R_popi (p := 994) rfl rfl ?_
      refine R_aload_n (p := 995) rfl l2 rfl ?_
      refine R_aload_n (p := 996) rfl l0 rfl ?_
      refine R_iload_n (p := 997) rfl l3 rfl ?_
      refine R_iconst (p := 998) rfl ki_1 rfl ?_
      refine R_iadd (p := 999) rfl rfl ?_
      obtain ⟨q164, eq164, h⟩ := bind_some h
      refine R_ialc (p := 1000) (l := xs) rfl rfl eq164 rfl ?_
      obtain ⟨q165, eq165, h⟩ := bind_some h
      refine R_cV2v (p := 1003) (hK.2 (q163.2, s.2.2).1) rfl rfl (tfX9_first (hK.2 (q163.2, s.2.2).1) (Nat.le_trans (by decide) hd) eq165) rfl rfl ?_
      refine R_popi (p := 1004) rfl rfl ?_
      refine R_goto rfl ?_
      refine R_iinc (p := 1478) rfl l3 rfl ki_6 rfl ?_
      refine R_goto rfl ?_
      obtain rfl := Option.some.inj h
      exact hq _ (jg_ne l0 rfl) (jg_ne l1 rfl) (jg_ne l2 rfl) jg_self
    replace h := ite_f h n166
    by_cases n173 : (q1 &&& (63 : Int32)) = (25 : Int32)
    · replace h := ite_t h n173
      refine R_tsw (p := 1007) rfl rfl (by rw [n173]; decide +kernel) ?_
      refine R_aload_n (p := 1008) rfl l1 rfl ?_
      refine R_aload_n (p := 1009) rfl l0 rfl ?_
      refine R_iload_n (p := 1010) rfl l3 rfl ?_
      refine R_iconst (p := 1011) rfl ki_1 rfl ?_
      refine R_iadd (p := 1012) rfl rfl ?_
      obtain ⟨q167, eq167, h⟩ := bind_some h
      refine R_ialc (p := 1013) (l := xs) rfl rfl eq167 rfl ?_
      refine R_aload_n (p := 1014) rfl l0 rfl ?_
      refine R_iload_n (p := 1015) rfl l3 rfl ?_
      refine R_iconst (p := 1016) rfl ki_2 rfl ?_
      refine R_iadd (p := 1017) rfl rfl ?_
      obtain ⟨q168, eq168, h⟩ := bind_some h
      refine R_ialc (p := 1018) (l := xs) rfl rfl eq168 rfl ?_
      obtain ⟨q169, eq169, h⟩ := bind_some h
      refine R_cV3v (p := 1021) (hK.1 s.2.2) rfl rfl (tfX8_way (hK.1 s.2.2) (Nat.le_trans (by decide) hd) eq169) rfl rfl ?_
      refine R_popi (p := 1022) rfl rfl ?_
      refine R_aload_n (p := 1023) rfl l2 rfl ?_
      refine R_aload_n (p := 1024) rfl l0 rfl ?_
      refine R_iload_n (p := 1025) rfl l3 rfl ?_
      refine R_iconst (p := 1026) rfl ki_1 rfl ?_
      refine R_iadd (p := 1027) rfl rfl ?_
      obtain ⟨q170, eq170, h⟩ := bind_some h
      refine R_ialc (p := 1028) (l := xs) rfl rfl eq170 rfl ?_
      refine R_aload_n (p := 1029) rfl l0 rfl ?_
      refine R_iload_n (p := 1030) rfl l3 rfl ?_
      refine R_iconst (p := 1031) rfl ki_2 rfl ?_
      refine R_iadd (p := 1032) rfl rfl ?_
      obtain ⟨q171, eq171, h⟩ := bind_some h
      refine R_ialc (p := 1033) (l := xs) rfl rfl eq171 rfl ?_
      obtain ⟨q172, eq172, h⟩ := bind_some h
      refine R_cV3v (p := 1036) (hK.2 (q169.2, s.2.2).1) rfl rfl (tfX9_way (hK.2 (q169.2, s.2.2).1) (Nat.le_trans (by decide) hd) eq172) rfl rfl ?_
      refine R_popi (p := 1037) rfl rfl ?_
      refine R_goto rfl ?_
      refine R_iinc (p := 1478) rfl l3 rfl ki_6 rfl ?_
      refine R_goto rfl ?_
      obtain rfl := Option.some.inj h
      exact hq _ (jg_ne l0 rfl) (jg_ne l1 rfl) (jg_ne l2 rfl) jg_self
    replace h := ite_f h n173
    by_cases n180 : (q1 &&& (63 : Int32)) = (26 : Int32)
    · replace h := ite_t h n180
      refine R_tsw (p := 1040) rfl rfl (by rw [n180]; decide +kernel) ?_
      refine R_aload_n (p := 1041) rfl l1 rfl ?_
      refine R_aload_n (p := 1042) rfl l0 rfl ?_
      refine R_iload_n (p := 1043) rfl l3 rfl ?_
      refine R_iconst (p := 1044) rfl ki_1 rfl ?_
      refine R_iadd (p := 1045) rfl rfl ?_
      obtain ⟨q174, eq174, h⟩ := bind_some h
      refine R_ialc (p := 1046) (l := xs) rfl rfl eq174 rfl ?_
      refine R_aload_n (p := 1047) rfl l0 rfl ?_
      refine R_iload_n (p := 1048) rfl l3 rfl ?_
      refine R_iconst (p := 1049) rfl ki_2 rfl ?_
      refine R_iadd (p := 1050) rfl rfl ?_
      obtain ⟨q175, eq175, h⟩ := bind_some h
      refine R_ialc (p := 1051) (l := xs) rfl rfl eq175 rfl ?_
      obtain ⟨q176, eq176, h⟩ := bind_some h
      refine R_cV3v (p := 1054) (hK.1 s.2.2) rfl rfl (tfX8_colour (hK.1 s.2.2) (Nat.le_trans (by decide) hd) eq176) rfl rfl ?_
      refine R_popi (p := 1055) rfl rfl ?_
      refine R_aload_n (p := 1056) rfl l2 rfl ?_
      refine R_aload_n (p := 1057) rfl l0 rfl ?_
      refine R_iload_n (p := 1058) rfl l3 rfl ?_
      refine R_iconst (p := 1059) rfl ki_1 rfl ?_
      refine R_iadd (p := 1060) rfl rfl ?_
      obtain ⟨q177, eq177, h⟩ := bind_some h
      refine R_ialc (p := 1061) (l := xs) rfl rfl eq177 rfl ?_
      refine R_aload_n (p := 1062) rfl l0 rfl ?_
      refine R_iload_n (p := 1063) rfl l3 rfl ?_
      refine R_iconst (p := 1064) rfl ki_2 rfl ?_
      refine R_iadd (p := 1065) rfl rfl ?_
      obtain ⟨q178, eq178, h⟩ := bind_some h
      refine R_ialc (p := 1066) (l := xs) rfl rfl eq178 rfl ?_
      obtain ⟨q179, eq179, h⟩ := bind_some h
      refine R_cV3v (p := 1069) (hK.2 (q176.2, s.2.2).1) rfl rfl (tfX9_colour (hK.2 (q176.2, s.2.2).1) (Nat.le_trans (by decide) hd) eq179) rfl rfl ?_
      refine R_popi (p := 1070) rfl rfl ?_
      refine R_goto rfl ?_
      refine R_iinc (p := 1478) rfl l3 rfl ki_6 rfl ?_
      refine R_goto rfl ?_
      obtain rfl := Option.some.inj h
      exact hq _ (jg_ne l0 rfl) (jg_ne l1 rfl) (jg_ne l2 rfl) jg_self
    replace h := ite_f h n180
    by_cases n185 : (q1 &&& (63 : Int32)) = (27 : Int32)
    · replace h := ite_t h n185
      refine R_tsw (p := 1073) rfl rfl (by rw [n185]; decide +kernel) ?_
      refine R_aload_n (p := 1074) rfl l1 rfl ?_
      refine R_aload_n (p := 1075) rfl l0 rfl ?_
      refine R_iload_n (p := 1076) rfl l3 rfl ?_
      refine R_iconst (p := 1077) rfl ki_1 rfl ?_
      refine R_iadd (p := 1078) rfl rfl ?_
      obtain ⟨q181, eq181, h⟩ := bind_some h
      refine R_ialc (p := 1079) (l := xs) rfl rfl eq181 rfl ?_
      obtain ⟨q182, eq182, h⟩ := bind_some h
      refine R_cV2v (p := 1082) (hK.1 s.2.2) rfl rfl (tfX8_apart (hK.1 s.2.2) (Nat.le_trans (by decide) hd) eq182) rfl rfl ?_
      refine R_popi (p := 1083) rfl rfl ?_
      refine R_aload_n (p := 1084) rfl l2 rfl ?_
      refine R_aload_n (p := 1085) rfl l0 rfl ?_
      refine R_iload_n (p := 1086) rfl l3 rfl ?_
      refine R_iconst (p := 1087) rfl ki_1 rfl ?_
      refine R_iadd (p := 1088) rfl rfl ?_
      obtain ⟨q183, eq183, h⟩ := bind_some h
      refine R_ialc (p := 1089) (l := xs) rfl rfl eq183 rfl ?_
      obtain ⟨q184, eq184, h⟩ := bind_some h
      refine R_cV2v (p := 1092) (hK.2 (q182.2, s.2.2).1) rfl rfl (tfX9_apart (hK.2 (q182.2, s.2.2).1) (Nat.le_trans (by decide) hd) eq184) rfl rfl ?_
      refine R_popi (p := 1093) rfl rfl ?_
      refine R_goto rfl ?_
      refine R_iinc (p := 1478) rfl l3 rfl ki_6 rfl ?_
      refine R_goto rfl ?_
      obtain rfl := Option.some.inj h
      exact hq _ (jg_ne l0 rfl) (jg_ne l1 rfl) (jg_ne l2 rfl) jg_self
    replace h := ite_f h n185
    by_cases n190 : (q1 &&& (63 : Int32)) = (28 : Int32)
    · replace h := ite_t h n190
      refine R_tsw (p := 1096) rfl rfl (by rw [n190]; decide +kernel) ?_
      refine R_aload_n (p := 1097) rfl l1 rfl ?_
      refine R_aload_n (p := 1098) rfl l0 rfl ?_
      refine R_iload_n (p := 1099) rfl l3 rfl ?_
      refine R_iconst (p := 1100) rfl ki_1 rfl ?_
      refine R_iadd (p := 1101) rfl rfl ?_
      obtain ⟨q186, eq186, h⟩ := bind_some h
      refine R_ialc (p := 1102) (l := xs) rfl rfl eq186 rfl ?_
      obtain ⟨q187, eq187, h⟩ := bind_some h
      refine R_cV2v (p := 1105) (hK.1 s.2.2) rfl rfl (tfX8_marked (hK.1 s.2.2) (Nat.le_trans (by decide) hd) eq187) rfl rfl ?_
      refine R_popi (p := 1106) rfl rfl ?_
      refine R_aload_n (p := 1107) rfl l2 rfl ?_
      refine R_aload_n (p := 1108) rfl l0 rfl ?_
      refine R_iload_n (p := 1109) rfl l3 rfl ?_
      refine R_iconst (p := 1110) rfl ki_1 rfl ?_
      refine R_iadd (p := 1111) rfl rfl ?_
      obtain ⟨q188, eq188, h⟩ := bind_some h
      refine R_ialc (p := 1112) (l := xs) rfl rfl eq188 rfl ?_
      obtain ⟨q189, eq189, h⟩ := bind_some h
      refine R_cV2v (p := 1115) (hK.2 (q187.2, s.2.2).1) rfl rfl (tfX9_marked (hK.2 (q187.2, s.2.2).1) (Nat.le_trans (by decide) hd) eq189) rfl rfl ?_
      refine R_popi (p := 1116) rfl rfl ?_
      refine R_goto rfl ?_
      refine R_iinc (p := 1478) rfl l3 rfl ki_6 rfl ?_
      refine R_goto rfl ?_
      obtain rfl := Option.some.inj h
      exact hq _ (jg_ne l0 rfl) (jg_ne l1 rfl) (jg_ne l2 rfl) jg_self
    replace h := ite_f h n190
    by_cases n199 : (q1 &&& (63 : Int32)) = (29 : Int32)
    · replace h := ite_t h n199
      refine R_tsw (p := 1119) rfl rfl (by rw [n199]; decide +kernel) ?_
      refine R_aload_n (p := 1120) rfl l1 rfl ?_
      refine R_aload_n (p := 1121) rfl l0 rfl ?_
      refine R_iload_n (p := 1122) rfl l3 rfl ?_
      refine R_iconst (p := 1123) rfl ki_1 rfl ?_
      refine R_iadd (p := 1124) rfl rfl ?_
      obtain ⟨q191, eq191, h⟩ := bind_some h
      refine R_ialc (p := 1125) (l := xs) rfl rfl eq191 rfl ?_
      refine R_aload_n (p := 1126) rfl l0 rfl ?_
      refine R_iload_n (p := 1127) rfl l3 rfl ?_
      refine R_iconst (p := 1128) rfl ki_2 rfl ?_
      refine R_iadd (p := 1129) rfl rfl ?_
      obtain ⟨q192, eq192, h⟩ := bind_some h
      refine R_ialc (p := 1130) (l := xs) rfl rfl eq192 rfl ?_
      refine R_aload_n (p := 1131) rfl l0 rfl ?_
      refine R_iload_n (p := 1132) rfl l3 rfl ?_
      refine R_iconst (p := 1133) rfl ki_3 rfl ?_
      refine R_iadd (p := 1134) rfl rfl ?_
      obtain ⟨q193, eq193, h⟩ := bind_some h
      refine R_ialc (p := 1135) (l := xs) rfl rfl eq193 rfl ?_
      obtain ⟨q194, eq194, h⟩ := bind_some h
      refine R_cV4v (p := 1138) (hK.1 s.2.2) rfl rfl (tfX8_voice (hK.1 s.2.2) (Nat.le_trans (by decide) hd) eq194) rfl rfl ?_
      refine R_popi (p := 1139) rfl rfl ?_
      refine R_aload_n (p := 1140) rfl l2 rfl ?_
      refine R_aload_n (p := 1141) rfl l0 rfl ?_
      refine R_iload_n (p := 1142) rfl l3 rfl ?_
      refine R_iconst (p := 1143) rfl ki_1 rfl ?_
      refine R_iadd (p := 1144) rfl rfl ?_
      obtain ⟨q195, eq195, h⟩ := bind_some h
      refine R_ialc (p := 1145) (l := xs) rfl rfl eq195 rfl ?_
      refine R_aload_n (p := 1146) rfl l0 rfl ?_
      refine R_iload_n (p := 1147) rfl l3 rfl ?_
      refine R_iconst (p := 1148) rfl ki_2 rfl ?_
      refine R_iadd (p := 1149) rfl rfl ?_
      obtain ⟨q196, eq196, h⟩ := bind_some h
      refine R_ialc (p := 1150) (l := xs) rfl rfl eq196 rfl ?_
      refine R_aload_n (p := 1151) rfl l0 rfl ?_
      refine R_iload_n (p := 1152) rfl l3 rfl ?_
      refine R_iconst (p := 1153) rfl ki_3 rfl ?_
      refine R_iadd (p := 1154) rfl rfl ?_
      obtain ⟨q197, eq197, h⟩ := bind_some h
      refine R_ialc (p := 1155) (l := xs) rfl rfl eq197 rfl ?_
      obtain ⟨q198, eq198, h⟩ := bind_some h
      refine R_cV4v (p := 1158) (hK.2 (q194.2, s.2.2).1) rfl rfl (tfX9_voice (hK.2 (q194.2, s.2.2).1) (Nat.le_trans (by decide) hd) eq198) rfl rfl ?_
      refine R_popi (p := 1159) rfl rfl ?_
      refine R_goto rfl ?_
      refine R_iinc (p := 1478) rfl l3 rfl ki_6 rfl ?_
      refine R_goto rfl ?_
      obtain rfl := Option.some.inj h
      exact hq _ (jg_ne l0 rfl) (jg_ne l1 rfl) (jg_ne l2 rfl) jg_self
    replace h := ite_f h n199
    by_cases n204 : (q1 &&& (63 : Int32)) = (30 : Int32)
    · replace h := ite_t h n204
      refine R_tsw (p := 1162) rfl rfl (by rw [n204]; decide +kernel) ?_
      refine R_aload_n (p := 1163) rfl l1 rfl ?_
      refine R_aload_n (p := 1164) rfl l0 rfl ?_
      refine R_iload_n (p := 1165) rfl l3 rfl ?_
      refine R_iconst (p := 1166) rfl ki_1 rfl ?_
      refine R_iadd (p := 1167) rfl rfl ?_
      obtain ⟨q200, eq200, h⟩ := bind_some h
      refine R_ialc (p := 1168) (l := xs) rfl rfl eq200 rfl ?_
      obtain ⟨q201, eq201, h⟩ := bind_some h
      refine R_cV2v (p := 1171) (hK.1 s.2.2) rfl rfl (tfX8_body (hK.1 s.2.2) (Nat.le_trans (by decide) hd) eq201) rfl rfl ?_
      refine R_popi (p := 1172) rfl rfl ?_
      refine R_aload_n (p := 1173) rfl l2 rfl ?_
      refine R_aload_n (p := 1174) rfl l0 rfl ?_
      refine R_iload_n (p := 1175) rfl l3 rfl ?_
      refine R_iconst (p := 1176) rfl ki_1 rfl ?_
      refine R_iadd (p := 1177) rfl rfl ?_
      obtain ⟨q202, eq202, h⟩ := bind_some h
      refine R_ialc (p := 1178) (l := xs) rfl rfl eq202 rfl ?_
      obtain ⟨q203, eq203, h⟩ := bind_some h
      refine R_cV2v (p := 1181) (hK.2 (q201.2, s.2.2).1) rfl rfl (tfX9_body_ (hK.2 (q201.2, s.2.2).1) (Nat.le_trans (by decide) hd) eq203) rfl rfl ?_
      refine R_popi (p := 1182) rfl rfl ?_
      refine R_goto rfl ?_
      refine R_iinc (p := 1478) rfl l3 rfl ki_6 rfl ?_
      refine R_goto rfl ?_
      obtain rfl := Option.some.inj h
      exact hq _ (jg_ne l0 rfl) (jg_ne l1 rfl) (jg_ne l2 rfl) jg_self
    replace h := ite_f h n204
    by_cases n213 : (q1 &&& (63 : Int32)) = (31 : Int32)
    · replace h := ite_t h n213
      refine R_tsw (p := 1185) rfl rfl (by rw [n213]; decide +kernel) ?_
      refine R_aload_n (p := 1186) rfl l1 rfl ?_
      refine R_aload_n (p := 1187) rfl l0 rfl ?_
      refine R_iload_n (p := 1188) rfl l3 rfl ?_
      refine R_iconst (p := 1189) rfl ki_1 rfl ?_
      refine R_iadd (p := 1190) rfl rfl ?_
      obtain ⟨q205, eq205, h⟩ := bind_some h
      refine R_ialc (p := 1191) (l := xs) rfl rfl eq205 rfl ?_
      refine R_aload_n (p := 1192) rfl l0 rfl ?_
      refine R_iload_n (p := 1193) rfl l3 rfl ?_
      refine R_iconst (p := 1194) rfl ki_2 rfl ?_
      refine R_iadd (p := 1195) rfl rfl ?_
      obtain ⟨q206, eq206, h⟩ := bind_some h
      refine R_ialc (p := 1196) (l := xs) rfl rfl eq206 rfl ?_
      refine R_aload_n (p := 1197) rfl l0 rfl ?_
      refine R_iload_n (p := 1198) rfl l3 rfl ?_
      refine R_iconst (p := 1199) rfl ki_3 rfl ?_
      refine R_iadd (p := 1200) rfl rfl ?_
      obtain ⟨q207, eq207, h⟩ := bind_some h
      refine R_ialc (p := 1201) (l := xs) rfl rfl eq207 rfl ?_
      obtain ⟨q208, eq208, h⟩ := bind_some h
      refine R_cV4v (p := 1204) (hK.1 s.2.2) rfl rfl (tfX8_sheet (hK.1 s.2.2) (Nat.le_trans (by decide) hd) eq208) rfl rfl ?_
      refine R_popi (p := 1205) rfl rfl ?_
      refine R_aload_n (p := 1206) rfl l2 rfl ?_
      refine R_aload_n (p := 1207) rfl l0 rfl ?_
      refine R_iload_n (p := 1208) rfl l3 rfl ?_
      refine R_iconst (p := 1209) rfl ki_1 rfl ?_
      refine R_iadd (p := 1210) rfl rfl ?_
      obtain ⟨q209, eq209, h⟩ := bind_some h
      refine R_ialc (p := 1211) (l := xs) rfl rfl eq209 rfl ?_
      refine R_aload_n (p := 1212) rfl l0 rfl ?_
      refine R_iload_n (p := 1213) rfl l3 rfl ?_
      refine R_iconst (p := 1214) rfl ki_2 rfl ?_
      refine R_iadd (p := 1215) rfl rfl ?_
      obtain ⟨q210, eq210, h⟩ := bind_some h
      refine R_ialc (p := 1216) (l := xs) rfl rfl eq210 rfl ?_
      refine R_aload_n (p := 1217) rfl l0 rfl ?_
      refine R_iload_n (p := 1218) rfl l3 rfl ?_
      refine R_iconst (p := 1219) rfl ki_3 rfl ?_
      refine R_iadd (p := 1220) rfl rfl ?_
      obtain ⟨q211, eq211, h⟩ := bind_some h
      refine R_ialc (p := 1221) (l := xs) rfl rfl eq211 rfl ?_
      obtain ⟨q212, eq212, h⟩ := bind_some h
      refine R_cV4v (p := 1224) (hK.2 (q208.2, s.2.2).1) rfl rfl (tfX9_sheet (hK.2 (q208.2, s.2.2).1) (Nat.le_trans (by decide) hd) eq212) rfl rfl ?_
      refine R_popi (p := 1225) rfl rfl ?_
      refine R_goto rfl ?_
      refine R_iinc (p := 1478) rfl l3 rfl ki_6 rfl ?_
      refine R_goto rfl ?_
      obtain rfl := Option.some.inj h
      exact hq _ (jg_ne l0 rfl) (jg_ne l1 rfl) (jg_ne l2 rfl) jg_self
    replace h := ite_f h n213
    by_cases n222 : (q1 &&& (63 : Int32)) = (32 : Int32)
    · replace h := ite_t h n222
      refine R_tsw (p := 1228) rfl rfl (by rw [n222]; decide +kernel) ?_
      refine R_aload_n (p := 1229) rfl l1 rfl ?_
      refine R_aload_n (p := 1230) rfl l0 rfl ?_
      refine R_iload_n (p := 1231) rfl l3 rfl ?_
      refine R_iconst (p := 1232) rfl ki_1 rfl ?_
      refine R_iadd (p := 1233) rfl rfl ?_
      obtain ⟨q214, eq214, h⟩ := bind_some h
      refine R_ialc (p := 1234) (l := xs) rfl rfl eq214 rfl ?_
      refine R_aload_n (p := 1235) rfl l0 rfl ?_
      refine R_iload_n (p := 1236) rfl l3 rfl ?_
      refine R_iconst (p := 1237) rfl ki_2 rfl ?_
      refine R_iadd (p := 1238) rfl rfl ?_
      obtain ⟨q215, eq215, h⟩ := bind_some h
      refine R_ialc (p := 1239) (l := xs) rfl rfl eq215 rfl ?_
      refine R_aload_n (p := 1240) rfl l0 rfl ?_
      refine R_iload_n (p := 1241) rfl l3 rfl ?_
      refine R_iconst (p := 1242) rfl ki_3 rfl ?_
      refine R_iadd (p := 1243) rfl rfl ?_
      obtain ⟨q216, eq216, h⟩ := bind_some h
      refine R_ialc (p := 1244) (l := xs) rfl rfl eq216 rfl ?_
      obtain ⟨q217, eq217, h⟩ := bind_some h
      refine R_cV4v (p := 1247) (hK.1 s.2.2) rfl rfl (tfX8_put (hK.1 s.2.2) (Nat.le_trans (by decide) hd) eq217) rfl rfl ?_
      refine R_popi (p := 1248) rfl rfl ?_
      refine R_aload_n (p := 1249) rfl l2 rfl ?_
      refine R_aload_n (p := 1250) rfl l0 rfl ?_
      refine R_iload_n (p := 1251) rfl l3 rfl ?_
      refine R_iconst (p := 1252) rfl ki_1 rfl ?_
      refine R_iadd (p := 1253) rfl rfl ?_
      obtain ⟨q218, eq218, h⟩ := bind_some h
      refine R_ialc (p := 1254) (l := xs) rfl rfl eq218 rfl ?_
      refine R_aload_n (p := 1255) rfl l0 rfl ?_
      refine R_iload_n (p := 1256) rfl l3 rfl ?_
      refine R_iconst (p := 1257) rfl ki_2 rfl ?_
      refine R_iadd (p := 1258) rfl rfl ?_
      obtain ⟨q219, eq219, h⟩ := bind_some h
      refine R_ialc (p := 1259) (l := xs) rfl rfl eq219 rfl ?_
      refine R_aload_n (p := 1260) rfl l0 rfl ?_
      refine R_iload_n (p := 1261) rfl l3 rfl ?_
      refine R_iconst (p := 1262) rfl ki_3 rfl ?_
      refine R_iadd (p := 1263) rfl rfl ?_
      obtain ⟨q220, eq220, h⟩ := bind_some h
      refine R_ialc (p := 1264) (l := xs) rfl rfl eq220 rfl ?_
      obtain ⟨q221, eq221, h⟩ := bind_some h
      refine R_cV4v (p := 1267) (hK.2 (q217.2, s.2.2).1) rfl rfl (tfX9_put (hK.2 (q217.2, s.2.2).1) (Nat.le_trans (by decide) hd) eq221) rfl rfl ?_
      refine R_popi (p := 1268) rfl rfl ?_
      refine R_goto rfl ?_
      refine R_iinc (p := 1478) rfl l3 rfl ki_6 rfl ?_
      refine R_goto rfl ?_
      obtain rfl := Option.some.inj h
      exact hq _ (jg_ne l0 rfl) (jg_ne l1 rfl) (jg_ne l2 rfl) jg_self
    replace h := ite_f h n222
    by_cases n235 : (q1 &&& (63 : Int32)) = (33 : Int32)
    · replace h := ite_t h n235
      refine R_tsw (p := 1271) rfl rfl (by rw [n235]; decide +kernel) ?_
      refine R_aload_n (p := 1272) rfl l1 rfl ?_
      refine R_aload_n (p := 1273) rfl l0 rfl ?_
      refine R_iload_n (p := 1274) rfl l3 rfl ?_
      refine R_iconst (p := 1275) rfl ki_1 rfl ?_
      refine R_iadd (p := 1276) rfl rfl ?_
      obtain ⟨q223, eq223, h⟩ := bind_some h
      refine R_ialc (p := 1277) (l := xs) rfl rfl eq223 rfl ?_
      refine R_aload_n (p := 1278) rfl l0 rfl ?_
      refine R_iload_n (p := 1279) rfl l3 rfl ?_
      refine R_iconst (p := 1280) rfl ki_2 rfl ?_
      refine R_iadd (p := 1281) rfl rfl ?_
      obtain ⟨q224, eq224, h⟩ := bind_some h
      refine R_ialc (p := 1282) (l := xs) rfl rfl eq224 rfl ?_
      refine R_aload_n (p := 1283) rfl l0 rfl ?_
      refine R_iload_n (p := 1284) rfl l3 rfl ?_
      refine R_iconst (p := 1285) rfl ki_3 rfl ?_
      refine R_iadd (p := 1286) rfl rfl ?_
      obtain ⟨q225, eq225, h⟩ := bind_some h
      refine R_ialc (p := 1287) (l := xs) rfl rfl eq225 rfl ?_
      refine R_aload_n (p := 1288) rfl l0 rfl ?_
      refine R_iload_n (p := 1289) rfl l3 rfl ?_
      refine R_iconst (p := 1290) rfl ki_4 rfl ?_
      refine R_iadd (p := 1291) rfl rfl ?_
      obtain ⟨q226, eq226, h⟩ := bind_some h
      refine R_ialc (p := 1292) (l := xs) rfl rfl eq226 rfl ?_
      refine R_aload_n (p := 1293) rfl l0 rfl ?_
      refine R_iload_n (p := 1294) rfl l3 rfl ?_
      refine R_iconst (p := 1295) rfl ki_5 rfl ?_
      refine R_iadd (p := 1296) rfl rfl ?_
      obtain ⟨q227, eq227, h⟩ := bind_some h
      refine R_ialc (p := 1297) (l := xs) rfl rfl eq227 rfl ?_
      obtain ⟨q228, eq228, h⟩ := bind_some h
      refine R_cV6v (p := 1300) (hK.1 s.2.2) rfl rfl (tfX8_move (hK.1 s.2.2) (Nat.le_trans (by decide) hd) eq228) rfl rfl ?_
      refine R_popi (p := 1301) rfl rfl ?_
      refine R_aload_n (p := 1302) rfl l2 rfl ?_
      refine R_aload_n (p := 1303) rfl l0 rfl ?_
      refine R_iload_n (p := 1304) rfl l3 rfl ?_
      refine R_iconst (p := 1305) rfl ki_1 rfl ?_
      refine R_iadd (p := 1306) rfl rfl ?_
      obtain ⟨q229, eq229, h⟩ := bind_some h
      refine R_ialc (p := 1307) (l := xs) rfl rfl eq229 rfl ?_
      refine R_aload_n (p := 1308) rfl l0 rfl ?_
      refine R_iload_n (p := 1309) rfl l3 rfl ?_
      refine R_iconst (p := 1310) rfl ki_2 rfl ?_
      refine R_iadd (p := 1311) rfl rfl ?_
      obtain ⟨q230, eq230, h⟩ := bind_some h
      refine R_ialc (p := 1312) (l := xs) rfl rfl eq230 rfl ?_
      refine R_aload_n (p := 1313) rfl l0 rfl ?_
      refine R_iload_n (p := 1314) rfl l3 rfl ?_
      refine R_iconst (p := 1315) rfl ki_3 rfl ?_
      refine R_iadd (p := 1316) rfl rfl ?_
      obtain ⟨q231, eq231, h⟩ := bind_some h
      refine R_ialc (p := 1317) (l := xs) rfl rfl eq231 rfl ?_
      refine R_aload_n (p := 1318) rfl l0 rfl ?_
      refine R_iload_n (p := 1319) rfl l3 rfl ?_
      refine R_iconst (p := 1320) rfl ki_4 rfl ?_
      refine R_iadd (p := 1321) rfl rfl ?_
      obtain ⟨q232, eq232, h⟩ := bind_some h
      refine R_ialc (p := 1322) (l := xs) rfl rfl eq232 rfl ?_
      refine R_aload_n (p := 1323) rfl l0 rfl ?_
      refine R_iload_n (p := 1324) rfl l3 rfl ?_
      refine R_iconst (p := 1325) rfl ki_5 rfl ?_
      refine R_iadd (p := 1326) rfl rfl ?_
      obtain ⟨q233, eq233, h⟩ := bind_some h
      refine R_ialc (p := 1327) (l := xs) rfl rfl eq233 rfl ?_
      obtain ⟨q234, eq234, h⟩ := bind_some h
      refine R_cV6v (p := 1330) (hK.2 (q228.2, s.2.2).1) rfl rfl (tfX9_move (hK.2 (q228.2, s.2.2).1) (Nat.le_trans (by decide) hd) eq234) rfl rfl ?_
      refine R_popi (p := 1331) rfl rfl ?_
      refine R_goto rfl ?_
      refine R_iinc (p := 1478) rfl l3 rfl ki_6 rfl ?_
      refine R_goto rfl ?_
      obtain rfl := Option.some.inj h
      exact hq _ (jg_ne l0 rfl) (jg_ne l1 rfl) (jg_ne l2 rfl) jg_self
    replace h := ite_f h n235
    by_cases n240 : (q1 &&& (63 : Int32)) = (34 : Int32)
    · replace h := ite_t h n240
      refine R_tsw (p := 1334) rfl rfl (by rw [n240]; decide +kernel) ?_
      refine R_aload_n (p := 1335) rfl l1 rfl ?_
      refine R_aload_n (p := 1336) rfl l0 rfl ?_
      refine R_iload_n (p := 1337) rfl l3 rfl ?_
      refine R_iconst (p := 1338) rfl ki_1 rfl ?_
      refine R_iadd (p := 1339) rfl rfl ?_
      obtain ⟨q236, eq236, h⟩ := bind_some h
      refine R_ialc (p := 1340) (l := xs) rfl rfl eq236 rfl ?_
      obtain ⟨q237, eq237, h⟩ := bind_some h
      refine R_cV2v (p := 1343) (hK.1 s.2.2) rfl rfl (tfX8_gases (hK.1 s.2.2) (Nat.le_trans (by decide) hd) eq237) rfl rfl ?_
      refine R_popi (p := 1344) rfl rfl ?_
      refine R_aload_n (p := 1345) rfl l2 rfl ?_
      refine R_aload_n (p := 1346) rfl l0 rfl ?_
      refine R_iload_n (p := 1347) rfl l3 rfl ?_
      refine R_iconst (p := 1348) rfl ki_1 rfl ?_
      refine R_iadd (p := 1349) rfl rfl ?_
      obtain ⟨q238, eq238, h⟩ := bind_some h
      refine R_ialc (p := 1350) (l := xs) rfl rfl eq238 rfl ?_
      obtain ⟨q239, eq239, h⟩ := bind_some h
      refine R_cV2v (p := 1353) (hK.2 (q237.2, s.2.2).1) rfl rfl (tfX9_gases (hK.2 (q237.2, s.2.2).1) (Nat.le_trans (by decide) hd) eq239) rfl rfl ?_
      refine R_popi (p := 1354) rfl rfl ?_
      refine R_goto rfl ?_
      refine R_iinc (p := 1478) rfl l3 rfl ki_6 rfl ?_
      refine R_goto rfl ?_
      obtain rfl := Option.some.inj h
      exact hq _ (jg_ne l0 rfl) (jg_ne l1 rfl) (jg_ne l2 rfl) jg_self
    replace h := ite_f h n240
    by_cases n243 : (q1 &&& (63 : Int32)) = (35 : Int32)
    · replace h := ite_t h n243
      refine R_tsw (p := 1357) rfl rfl (by rw [n243]; decide +kernel) ?_
      refine R_aload_n (p := 1358) rfl l1 rfl ?_
      obtain ⟨q241, eq241, h⟩ := bind_some h
      refine R_cV1v (p := 1361) (hK.1 s.2.2) rfl rfl (tfX8_image (hK.1 s.2.2) (Nat.le_trans (by decide) hd) eq241) rfl rfl ?_
      refine R_popi (p := 1362) rfl rfl ?_
      refine R_aload_n (p := 1363) rfl l2 rfl ?_
      obtain ⟨q242, eq242, h⟩ := bind_some h
      refine R_cV1v (p := 1366) (hK.2 (q241.2, s.2.2).1) rfl rfl (tfX9_image (hK.2 (q241.2, s.2.2).1) (Nat.le_trans (by decide) hd) eq242) rfl rfl ?_
      refine R_popi (p := 1367) rfl rfl ?_
      refine R_goto rfl ?_
      refine R_iinc (p := 1478) rfl l3 rfl ki_6 rfl ?_
      refine R_goto rfl ?_
      obtain rfl := Option.some.inj h
      exact hq _ (jg_ne l0 rfl) (jg_ne l1 rfl) (jg_ne l2 rfl) jg_self
    replace h := ite_f h n243
    by_cases n246 : (q1 &&& (63 : Int32)) = (36 : Int32)
    · replace h := ite_t h n246
      refine R_tsw (p := 1370) rfl rfl (by rw [n246]; decide +kernel) ?_
      refine R_aload_n (p := 1371) rfl l1 rfl ?_
      obtain ⟨q244, eq244, h⟩ := bind_some h
      refine R_cV1v (p := 1374) (hK.1 s.2.2) rfl rfl (tfX8_restore (hK.1 s.2.2) (Nat.le_trans (by decide) hd) eq244) rfl rfl ?_
      refine R_popi (p := 1375) rfl rfl ?_
      refine R_aload_n (p := 1376) rfl l2 rfl ?_
      obtain ⟨q245, eq245, h⟩ := bind_some h
      refine R_cV1v (p := 1379) (hK.2 (q244.2, s.2.2).1) rfl rfl (tfX9_restore (hK.2 (q244.2, s.2.2).1) (Nat.le_trans (by decide) hd) eq245) rfl rfl ?_
      refine R_popi (p := 1380) rfl rfl ?_
      refine R_goto rfl ?_
      refine R_iinc (p := 1478) rfl l3 rfl ki_6 rfl ?_
      refine R_goto rfl ?_
      obtain rfl := Option.some.inj h
      exact hq _ (jg_ne l0 rfl) (jg_ne l1 rfl) (jg_ne l2 rfl) jg_self
    replace h := ite_f h n246
    by_cases n251 : (q1 &&& (63 : Int32)) = (37 : Int32)
    · replace h := ite_t h n251
      refine R_tsw (p := 1383) rfl rfl (by rw [n251]; decide +kernel) ?_
      refine R_aload_n (p := 1384) rfl l1 rfl ?_
      refine R_aload_n (p := 1385) rfl l0 rfl ?_
      refine R_iload_n (p := 1386) rfl l3 rfl ?_
      refine R_iconst (p := 1387) rfl ki_1 rfl ?_
      refine R_iadd (p := 1388) rfl rfl ?_
      obtain ⟨q247, eq247, h⟩ := bind_some h
      refine R_ialc (p := 1389) (l := xs) rfl rfl eq247 rfl ?_
      obtain ⟨q248, eq248, h⟩ := bind_some h
      refine R_cV2v (p := 1392) (hK.1 s.2.2) rfl rfl (tfX8_tell (hK.1 s.2.2) (Nat.le_trans (by decide) hd) eq248) rfl rfl ?_
      refine R_popi (p := 1393) rfl rfl ?_
      refine R_aload_n (p := 1394) rfl l2 rfl ?_
      refine R_aload_n (p := 1395) rfl l0 rfl ?_
      refine R_iload_n (p := 1396) rfl l3 rfl ?_
      refine R_iconst (p := 1397) rfl ki_1 rfl ?_
      refine R_iadd (p := 1398) rfl rfl ?_
      obtain ⟨q249, eq249, h⟩ := bind_some h
      refine R_ialc (p := 1399) (l := xs) rfl rfl eq249 rfl ?_
      obtain ⟨q250, eq250, h⟩ := bind_some h
      refine R_cV2v (p := 1402) (hK.2 (q248.2, s.2.2).1) rfl rfl (tfX9_tell (hK.2 (q248.2, s.2.2).1) (Nat.le_trans (by decide) hd) eq250) rfl rfl ?_
      refine R_popi (p := 1403) rfl rfl ?_
      refine R_goto rfl ?_
      refine R_iinc (p := 1478) rfl l3 rfl ki_6 rfl ?_
      refine R_goto rfl ?_
      obtain rfl := Option.some.inj h
      exact hq _ (jg_ne l0 rfl) (jg_ne l1 rfl) (jg_ne l2 rfl) jg_self
    replace h := ite_f h n251
    by_cases n256 : (q1 &&& (63 : Int32)) = (38 : Int32)
    · replace h := ite_t h n256
      refine R_tsw (p := 1406) rfl rfl (by rw [n256]; decide +kernel) ?_
      refine R_aload_n (p := 1407) rfl l1 rfl ?_
      refine R_aload_n (p := 1408) rfl l0 rfl ?_
      refine R_iload_n (p := 1409) rfl l3 rfl ?_
      refine R_iconst (p := 1410) rfl ki_1 rfl ?_
      refine R_iadd (p := 1411) rfl rfl ?_
      obtain ⟨q252, eq252, h⟩ := bind_some h
      refine R_ialc (p := 1412) (l := xs) rfl rfl eq252 rfl ?_
      obtain ⟨q253, eq253, h⟩ := bind_some h
      refine R_cV2v (p := 1415) (hK.1 s.2.2) rfl rfl (tfX8_check (hK.1 s.2.2) (Nat.le_trans (by decide) hd) eq253) rfl rfl ?_
      refine R_aload_n (p := 1416) rfl l2 rfl ?_
      refine R_aload_n (p := 1417) rfl l0 rfl ?_
      refine R_iload_n (p := 1418) rfl l3 rfl ?_
      refine R_iconst (p := 1419) rfl ki_1 rfl ?_
      refine R_iadd (p := 1420) rfl rfl ?_
      obtain ⟨q254, eq254, h⟩ := bind_some h
      refine R_ialc (p := 1421) (l := xs) rfl rfl eq254 rfl ?_
      obtain ⟨q255, eq255, h⟩ := bind_some h
      refine R_cV2v (p := 1424) (hK.2 (q253.2, s.2.2).1) rfl rfl (tfX9_check (hK.2 (q253.2, s.2.2).1) (Nat.le_trans (by decide) hd) eq255) rfl rfl ?_
      by_cases hc : q253.1 = q255.1
      · replace h := ite_t h hc
        refine R_iceq_t rfl hc ?_
        refine R_iinc (p := 1478) rfl l3 rfl ki_6 rfl ?_
        refine R_goto rfl ?_
        obtain rfl := Option.some.inj h
        exact hq _ (jg_ne l0 rfl) (jg_ne l1 rfl) (jg_ne l2 rfl) jg_self
      · replace h := ite_f h hc
        refine R_iceq_f (p := 1427) rfl hc rfl ?_
        refine R_iconst (p := 1428) rfl ki_0 rfl ?_
        obtain rfl := Option.some.inj h
        exact R_zreturn rfl rfl (by decide) hq
    replace h := ite_f h n256
    by_cases n261 : (q1 &&& (63 : Int32)) = (39 : Int32)
    · replace h := ite_t h n261
      refine R_tsw (p := 1429) rfl rfl (by rw [n261]; decide +kernel) ?_
      refine R_aload_n (p := 1430) rfl l1 rfl ?_
      refine R_aload_n (p := 1431) rfl l0 rfl ?_
      refine R_iload_n (p := 1432) rfl l3 rfl ?_
      refine R_iconst (p := 1433) rfl ki_1 rfl ?_
      refine R_iadd (p := 1434) rfl rfl ?_
      obtain ⟨q257, eq257, h⟩ := bind_some h
      refine R_ialc (p := 1435) (l := xs) rfl rfl eq257 rfl ?_
      obtain ⟨q258, eq258, h⟩ := bind_some h
      refine R_cV2v (p := 1438) (hK.1 s.2.2) rfl rfl (tfX8_count (hK.1 s.2.2) (Nat.le_trans (by decide) hd) eq258) rfl rfl ?_
      refine R_popi (p := 1439) rfl rfl ?_
      refine R_aload_n (p := 1440) rfl l2 rfl ?_
      refine R_aload_n (p := 1441) rfl l0 rfl ?_
      refine R_iload_n (p := 1442) rfl l3 rfl ?_
      refine R_iconst (p := 1443) rfl ki_1 rfl ?_
      refine R_iadd (p := 1444) rfl rfl ?_
      obtain ⟨q259, eq259, h⟩ := bind_some h
      refine R_ialc (p := 1445) (l := xs) rfl rfl eq259 rfl ?_
      obtain ⟨q260, eq260, h⟩ := bind_some h
      refine R_cV2v (p := 1448) (hK.2 (q258.2, s.2.2).1) rfl rfl (tfX9_count (hK.2 (q258.2, s.2.2).1) (Nat.le_trans (by decide) hd) eq260) rfl rfl ?_
      refine R_popi (p := 1449) rfl rfl ?_
      refine R_goto rfl ?_
      refine R_iinc (p := 1478) rfl l3 rfl ki_6 rfl ?_
      refine R_goto rfl ?_
      obtain rfl := Option.some.inj h
      exact hq _ (jg_ne l0 rfl) (jg_ne l1 rfl) (jg_ne l2 rfl) jg_self
    replace h := ite_f h n261
    by_cases n266 : (q1 &&& (63 : Int32)) = (40 : Int32)
    · replace h := ite_t h n266
      refine R_tsw (p := 1452) rfl rfl (by rw [n266]; decide +kernel) ?_
      refine R_aload_n (p := 1453) rfl l1 rfl ?_
      refine R_aload_n (p := 1454) rfl l0 rfl ?_
      refine R_iload_n (p := 1455) rfl l3 rfl ?_
      refine R_iconst (p := 1456) rfl ki_1 rfl ?_
      refine R_iadd (p := 1457) rfl rfl ?_
      obtain ⟨q262, eq262, h⟩ := bind_some h
      refine R_ialc (p := 1458) (l := xs) rfl rfl eq262 rfl ?_
      obtain ⟨q263, eq263, h⟩ := bind_some h
      refine R_cV2v (p := 1461) (hK.1 s.2.2) rfl rfl (tfX8_told (hK.1 s.2.2) (Nat.le_trans (by decide) hd) eq263) rfl rfl ?_
      refine R_popi (p := 1462) rfl rfl ?_
      refine R_aload_n (p := 1463) rfl l2 rfl ?_
      refine R_aload_n (p := 1464) rfl l0 rfl ?_
      refine R_iload_n (p := 1465) rfl l3 rfl ?_
      refine R_iconst (p := 1466) rfl ki_1 rfl ?_
      refine R_iadd (p := 1467) rfl rfl ?_
      obtain ⟨q264, eq264, h⟩ := bind_some h
      refine R_ialc (p := 1468) (l := xs) rfl rfl eq264 rfl ?_
      obtain ⟨q265, eq265, h⟩ := bind_some h
      refine R_cV2v (p := 1471) (hK.2 (q263.2, s.2.2).1) rfl rfl (tfX9_told (hK.2 (q263.2, s.2.2).1) (Nat.le_trans (by decide) hd) eq265) rfl rfl ?_
      refine R_popi (p := 1472) rfl rfl ?_
      refine R_goto rfl ?_
      refine R_iinc (p := 1478) rfl l3 rfl ki_6 rfl ?_
      refine R_goto rfl ?_
      obtain rfl := Option.some.inj h
      exact hq _ (jg_ne l0 rfl) (jg_ne l1 rfl) (jg_ne l2 rfl) jg_self
    replace h := ite_f h n266
    refine R_tsw (p := 1475) rfl rfl (tsw_d [(0 : Int32), (1 : Int32), (2 : Int32), (3 : Int32), (4 : Int32), (5 : Int32), (6 : Int32), (7 : Int32), (8 : Int32), (9 : Int32), (10 : Int32), (11 : Int32), (12 : Int32), (13 : Int32), (14 : Int32), (15 : Int32), (16 : Int32), (17 : Int32), (18 : Int32), (19 : Int32), (20 : Int32), (21 : Int32), (22 : Int32), (23 : Int32), (24 : Int32), (25 : Int32), (26 : Int32), (27 : Int32), (28 : Int32), (29 : Int32), (30 : Int32), (31 : Int32), (32 : Int32), (33 : Int32), (34 : Int32), (35 : Int32), (36 : Int32), (37 : Int32), (38 : Int32), (39 : Int32), (40 : Int32)] (List.forall_mem_cons.mpr ⟨n10, List.forall_mem_cons.mpr ⟨n17, List.forall_mem_cons.mpr ⟨n24, List.forall_mem_cons.mpr ⟨n31, List.forall_mem_cons.mpr ⟨n40, List.forall_mem_cons.mpr ⟨n47, List.forall_mem_cons.mpr ⟨n54, List.forall_mem_cons.mpr ⟨n63, List.forall_mem_cons.mpr ⟨n72, List.forall_mem_cons.mpr ⟨n79, List.forall_mem_cons.mpr ⟨n84, List.forall_mem_cons.mpr ⟨n91, List.forall_mem_cons.mpr ⟨n100, List.forall_mem_cons.mpr ⟨n105, List.forall_mem_cons.mpr ⟨n110, List.forall_mem_cons.mpr ⟨n117, List.forall_mem_cons.mpr ⟨n124, List.forall_mem_cons.mpr ⟨n129, List.forall_mem_cons.mpr ⟨n136, List.forall_mem_cons.mpr ⟨n141, List.forall_mem_cons.mpr ⟨n146, List.forall_mem_cons.mpr ⟨n151, List.forall_mem_cons.mpr ⟨n156, List.forall_mem_cons.mpr ⟨n161, List.forall_mem_cons.mpr ⟨n166, List.forall_mem_cons.mpr ⟨n173, List.forall_mem_cons.mpr ⟨n180, List.forall_mem_cons.mpr ⟨n185, List.forall_mem_cons.mpr ⟨n190, List.forall_mem_cons.mpr ⟨n199, List.forall_mem_cons.mpr ⟨n204, List.forall_mem_cons.mpr ⟨n213, List.forall_mem_cons.mpr ⟨n222, List.forall_mem_cons.mpr ⟨n235, List.forall_mem_cons.mpr ⟨n240, List.forall_mem_cons.mpr ⟨n243, List.forall_mem_cons.mpr ⟨n246, List.forall_mem_cons.mpr ⟨n251, List.forall_mem_cons.mpr ⟨n256, List.forall_mem_cons.mpr ⟨n261, List.forall_mem_cons.mpr ⟨n266, fun _ h9 => absurd h9 List.not_mem_nil⟩⟩⟩⟩⟩⟩⟩⟩⟩⟩⟩⟩⟩⟩⟩⟩⟩⟩⟩⟩⟩⟩⟩⟩⟩⟩⟩⟩⟩⟩⟩⟩⟩⟩⟩⟩⟩⟩⟩⟩⟩) (by decide +kernel) rfl) ?_
    refine R_iinc (p := 1478) rfl l3 rfl ki_6 rfl ?_
    refine R_goto rfl ?_
    obtain rfl := Option.some.inj h
    exact hq _ (jg_ne l0 rfl) (jg_ne l1 rfl) (jg_ne l2 rfl) jg_self
theorem LL_law_18 {xs : List Int32} {d : Nat} {r : jR} {K : (Mem × Mem) → List jE} (hK : Ctx2 K) (hd : 109 ≤ d)  (n : Nat) (s : Int32 × (Mem × Mem)) {t : (Int32 × (Mem × Mem))} (h : lp (lL_law_18 xs) n s = some t) (hq : (qIM r K) t) : gL_law_18 xs d r K xs s := lp_ind (G := gL_law_18 xs d r K xs) (Qe := (qIM r K)) (fun s t h hq => BL_law_18 hK hd s h hq) n s t h hq
