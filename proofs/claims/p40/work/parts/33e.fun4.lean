noncomputable def nX9_one : Nat → Mem → Option Mem
  | 0, _ => none
  | n9 + 1, a0 => fX9_one (nX9_one n9) a0
theorem tnX9_one {xs : List Int32} {K : Mem → List jE} (hK : Ctx shR K) : ∀ n9, ∀ d9, n9 * 8 ≤ d9 → ∀  (m9 : Mem) (q9 : Mem), nX9_one n9 m9 = some q9 → CallD (jcs xs) d9 201 [.ref 137] (K m9) (none, K q9)
  | 0, _, _, _, _, h => by cases h
  | n9 + 1, d, hd, _, _, h => CallD.up (by rw [Nat.succ_mul] at hd; exact hd) (tfX9_one hK (d0 := n9 * 8) (Nat.le_refl _) (tnX9_one hK n9) h)
noncomputable def lX9_text_118 (s : Int32 × Mem) : Option ((Int32 × Mem) ⊕ (Int32 × Mem)) := (if (s.2 137 12) ≤ s.1 then some (.inr ((1 : Int32), s.2)) else (if inb s.1 60 then (if inb ((((896 : Int32) + ((62 : Int32) * (s.2 137 9))) + (1 : Int32)) + s.1) 1082 then some (.inl ((s.1 + (1 : Int32)), (mput s.2 138 ((((896 : Int32) + ((62 : Int32) * (s.2 137 9))) + (1 : Int32)) + s.1).toNatClampNeg (s.2 144 s.1.toNatClampNeg)))) else none) else none))
noncomputable def gX9_text_118 (xs : List Int32) (d : Nat) (r : jR) (K : Mem → List jE) (s : Int32 × Mem) : Prop := ∀ L, jget L 0 = some (.ref 137) → jget L 2 = some (.int s.1) → RunD (jcs xs) d 3 (some .int) jt_X9_text (118, L, [], (K s.2)) r
noncomputable def bX9_text_71 (y1 : Int32) (m : Mem) : Option (Int32 × Mem) := (if y1 = 0 ∨ y1 = 1 then (if ((mput (mput m 137 10 y1) 138 1 (0 : Int32)) 137 10) = 0 then (if inb ((896 : Int32) + ((62 : Int32) * ((mput (mput m 137 10 y1) 138 1 (0 : Int32)) 137 9))) 1082 then lp (lX9_text_118) fu ((0 : Int32), (mput (mput (mput m 137 10 y1) 138 1 (0 : Int32)) 138 ((896 : Int32) + ((62 : Int32) * ((mput (mput m 137 10 y1) 138 1 (0 : Int32)) 137 9))).toNatClampNeg ((mput (mput m 137 10 y1) 138 1 (0 : Int32)) 137 12))) else none) else some (((-10 : Int32) - ((mput (mput m 137 10 y1) 138 1 (0 : Int32)) 137 7)), (mput (mput m 137 10 y1) 138 1 (0 : Int32)))) else none)
noncomputable def fX9_text (x1 : Int32) (m : Mem) : Option (Int32 × Mem) := (if (fX9_within x1 (0 : Int32) (2 : Int32)) = 0 then (fX9_finding (-1000001 : Int32) m).bind fun q2 => some (q2.1, q2.2) else (fX9_either (nX9_one 8) (mput (mput (mput (mput (mput m 137 9 x1) 137 7 (0 : Int32)) 137 8 (0 : Int32)) 137 10 (0 : Int32)) 137 12 (0 : Int32))).bind fun q3 => (if (q3 137 10) = 0 then (if (q3 138 1) ≤ (q3 137 7) then bX9_text_71 (0 : Int32) q3 else bX9_text_71 (1 : Int32) q3) else bX9_text_71 (1 : Int32) q3))
theorem BX9_text_118 {xs : List Int32} {d : Nat} {r : jR} {K : Mem → List jE} (hK : Ctx shR K) (hd : 71 ≤ d)  (s : Int32 × Mem) {t : (Int32 × Mem) ⊕ (Int32 × Mem)} (h : lX9_text_118 s = some t) (hq : sQ (gX9_text_118 xs d r K) (qIM r K) t) : gX9_text_118 xs d r K s := by
  intro L l0 l2
  unfold lX9_text_118 at h
  refine R_iload_n (p := 119) rfl l2 rfl ?_
  refine R_aload_n (p := 120) rfl l0 rfl ?_
  refine R_getI (p := 123) hK rfl rfl rfl rfl ?_
  by_cases hc : (s.2 137 12) ≤ s.1
  · replace h := ite_t h hc
    refine R_icge_t rfl hc ?_
    refine R_iconst (p := 159) rfl ki_1 rfl ?_
    obtain rfl := Option.some.inj h
    exact R_ireturn rfl rfl hq
  · replace h := ite_f h hc
    refine R_icge_f (p := 126) rfl hc rfl ?_
    refine R_aload_n (p := 127) rfl l0 rfl ?_
    refine R_getR (p := 130) (q := 138) hK rfl rfl rfl rfl ?_
    refine R_sipush (p := 133) rfl ks_896 rfl ?_
    refine R_bipush (p := 135) rfl kb_62 rfl ?_
    refine R_aload_n (p := 136) rfl l0 rfl ?_
    refine R_getI (p := 139) hK rfl rfl rfl rfl ?_
    refine R_imul (p := 140) rfl rfl ?_
    refine R_iadd (p := 141) rfl rfl ?_
    refine R_iconst (p := 142) rfl ki_1 rfl ?_
    refine R_iadd (p := 143) rfl rfl ?_
    refine R_iload_n (p := 144) rfl l2 rfl ?_
    refine R_iadd (p := 145) rfl rfl ?_
    refine R_aload_n (p := 146) rfl l0 rfl ?_
    refine R_getR (p := 149) (q := 144) hK rfl rfl rfl rfl ?_
    refine R_iload_n (p := 150) rfl l2 rfl ?_
    obtain ⟨b6, h⟩ := gd h
    refine R_iald (p := 151) hK rfl rfl b6 rfl ?_
    obtain ⟨b7, h⟩ := gd h
    refine R_iast (p := 152) hK rfl rfl b7 rfl ?_
    refine R_iinc (p := 155) rfl l2 rfl ki_1 rfl ?_
    refine R_goto rfl ?_
    obtain rfl := Option.some.inj h
    exact hq _ (jg_ne l0 rfl) jg_self
theorem LX9_text_118 {xs : List Int32} {d : Nat} {r : jR} {K : Mem → List jE} (hK : Ctx shR K) (hd : 71 ≤ d)  (n : Nat) (s : Int32 × Mem) {t : (Int32 × Mem)} (h : lp (lX9_text_118) n s = some t) (hq : (qIM r K) t) : gX9_text_118 xs d r K s := lp_ind (G := gX9_text_118 xs d r K) (Qe := (qIM r K)) (fun s t h hq => BX9_text_118 hK hd s h hq) n s t h hq
theorem tbX9_text_71 {xs : List Int32} {d : Nat} {r : jR} {K : Mem → List jE} (hK : Ctx shR K) (hd : 71 ≤ d)  {y1 : Int32} {m : Mem} {L : List (Nat × Value)} (l0 : jget L 0 = some (.ref 137)) {t : (Int32 × Mem)} (h : bX9_text_71 y1 m = some t) (hq : (qIM r K) t) : RunD (jcs xs) d 3 (some .int) jt_X9_text (71, L, [.int y1, .ref 137], (K m)) r := by
  unfold bX9_text_71 at h
  obtain ⟨b4, h⟩ := gd h
  refine R_putI (p := 74) hK rfl rfl rfl (jfit_z b4) rfl ?_
  refine R_aload_n (p := 75) rfl l0 rfl ?_
  refine R_getR (p := 78) (q := 138) hK rfl rfl rfl rfl ?_
  refine R_iconst (p := 79) rfl ki_1 rfl ?_
  refine R_iconst (p := 80) rfl ki_0 rfl ?_
  refine R_iask (p := 81) hK rfl rfl (by decide) kn_1 rfl ?_
  refine R_aload_n (p := 82) rfl l0 rfl ?_
  refine R_getI (p := 85) hK rfl rfl rfl rfl ?_
  by_cases hc : ((mput (mput m 137 10 y1) 138 1 (0 : Int32)) 137 10) = 0
  · replace h := ite_t h hc
    refine R_ifeq_t rfl hc ?_
    refine R_aload_n (p := 97) rfl l0 rfl ?_
    refine R_getR (p := 100) (q := 138) hK rfl rfl rfl rfl ?_
    refine R_sipush (p := 103) rfl ks_896 rfl ?_
    refine R_bipush (p := 105) rfl kb_62 rfl ?_
    refine R_aload_n (p := 106) rfl l0 rfl ?_
    refine R_getI (p := 109) hK rfl rfl rfl rfl ?_
    refine R_imul (p := 110) rfl rfl ?_
    refine R_iadd (p := 111) rfl rfl ?_
    refine R_aload_n (p := 112) rfl l0 rfl ?_
    refine R_getI (p := 115) hK rfl rfl rfl rfl ?_
    obtain ⟨b5, h⟩ := gd h
    refine R_iast (p := 116) hK rfl rfl b5 rfl ?_
    refine R_iconst (p := 117) rfl ki_0 rfl ?_
    refine R_istore_n (p := 118) rfl rfl rfl ?_
    exact LX9_text_118 hK hd _ _ h hq _ (jg_ne l0 rfl) jg_self
  · replace h := ite_f h hc
    refine R_ifeq_f (p := 88) rfl hc rfl ?_
    refine R_bipush (p := 90) rfl kb_m10 rfl ?_
    refine R_aload_n (p := 91) rfl l0 rfl ?_
    refine R_getI (p := 94) hK rfl rfl rfl rfl ?_
    refine R_isub (p := 95) rfl rfl ?_
    obtain rfl := Option.some.inj h
    exact R_ireturn rfl rfl hq
theorem ufX9_text {xs : List Int32} {d : Nat} {r : jR} {K : Mem → List jE} (hK : Ctx shR K) (hd : 71 ≤ d) {x1 : Int32} {m : Mem} {L : List (Nat × Value)} (l0 : jget L 0 = some (.ref 137)) (l1 : jget L 1 = some (.int x1)) {t : (Int32 × Mem)} (h : fX9_text x1 m = some t) (hq : (qIM r K) t) : RunD (jcs xs) d 3 (some .int) jt_X9_text (0, L, [], (K m)) r := by
  unfold fX9_text at h
  refine R_iload_n (p := 1) rfl l1 rfl ?_
  refine R_iconst (p := 2) rfl ki_0 rfl ?_
  refine R_iconst (p := 3) rfl ki_2 rfl ?_
  refine R_cS3v (p := 6) rfl (tfX9_within (Nat.le_trans (by decide) hd) ) rfl rfl ?_
  by_cases hc : (fX9_within x1 (0 : Int32) (2 : Int32)) = 0
  · replace h := ite_t h hc
    refine R_ifne_f (p := 9) rfl (fun z => z hc) rfl ?_
    refine R_aload_n (p := 10) rfl l0 rfl ?_
    refine R_ldc (p := 12) rfl kl_m1000001 rfl ?_
    obtain ⟨q2, eq2, h⟩ := bind_some h
    refine R_cV2v (p := 15) hK rfl rfl (tfX9_finding hK (Nat.le_trans (by decide) hd)  eq2) rfl rfl ?_
    obtain rfl := Option.some.inj h
    exact R_ireturn rfl rfl hq
  · replace h := ite_f h hc
    refine R_ifne_t rfl hc ?_
    refine R_aload_n (p := 17) rfl l0 rfl ?_
    refine R_iload_n (p := 18) rfl l1 rfl ?_
    refine R_putI (p := 21) hK rfl rfl rfl rfl rfl ?_
    refine R_aload_n (p := 22) rfl l0 rfl ?_
    refine R_iconst (p := 23) rfl ki_0 rfl ?_
    refine R_putI (p := 26) hK rfl rfl rfl rfl rfl ?_
    refine R_aload_n (p := 27) rfl l0 rfl ?_
    refine R_iconst (p := 28) rfl ki_0 rfl ?_
    refine R_putI (p := 31) hK rfl rfl rfl rfl rfl ?_
    refine R_aload_n (p := 32) rfl l0 rfl ?_
    refine R_iconst (p := 33) rfl ki_0 rfl ?_
    refine R_putI (p := 36) hK rfl rfl rfl (jfit_z (by decide)) rfl ?_
    refine R_aload_n (p := 37) rfl l0 rfl ?_
    refine R_iconst (p := 38) rfl ki_0 rfl ?_
    refine R_putI (p := 41) hK rfl rfl rfl rfl rfl ?_
    refine R_aload_n (p := 42) rfl l0 rfl ?_
    obtain ⟨q3, eq3, h⟩ := bind_some h
    refine R_cV1n (p := 45) hK rfl rfl (tfX9_either hK (Nat.le_trans (by decide) hd) (fun d9 h9 => tnX9_one hK 8 d9 h9)  eq3) rfl rfl ?_
    refine R_aload_n (p := 46) rfl l0 rfl ?_
    refine R_aload_n (p := 47) rfl l0 rfl ?_
    refine R_getI (p := 50) hK rfl rfl rfl rfl ?_
    by_cases hc : (q3 137 10) = 0
    · replace h := ite_t h hc
      refine R_ifne_f (p := 53) rfl (fun z => z hc) rfl ?_
      refine R_aload_n (p := 54) rfl l0 rfl ?_
      refine R_getI (p := 57) hK rfl rfl rfl rfl ?_
      refine R_aload_n (p := 58) rfl l0 rfl ?_
      refine R_getR (p := 61) (q := 138) hK rfl rfl rfl rfl ?_
      refine R_iconst (p := 62) rfl ki_1 rfl ?_
      refine R_ialk (p := 63) hK rfl rfl (by decide) kn_1 rfl ?_
      by_cases hc : (q3 138 1) ≤ (q3 137 7)
      · replace h := ite_t h hc
        refine R_icge_t rfl hc ?_
        refine R_iconst (p := 71) rfl ki_0 rfl ?_
        exact tbX9_text_71 hK hd l0 h hq
      · replace h := ite_f h hc
        refine R_icge_f (p := 66) rfl hc rfl ?_
        refine R_iconst (p := 67) rfl ki_1 rfl ?_
        refine R_goto rfl ?_
        exact tbX9_text_71 hK hd l0 h hq
    · replace h := ite_f h hc
      refine R_ifne_t rfl hc ?_
      refine R_iconst (p := 67) rfl ki_1 rfl ?_
      refine R_goto rfl ?_
      exact tbX9_text_71 hK hd l0 h hq
theorem tfX9_text {xs : List Int32} {d : Nat} {K : Mem → List jE} (hK : Ctx shR K) (hd : 72 ≤ d) {x1 : Int32} {m : Mem} {t : (Int32 × Mem)} (h : fX9_text x1 m = some t) : CallD (jcs xs) d 202 [.ref 137, .int x1] (K m) (some (.int t.1), K t.2) := by
  obtain ⟨d, rfl⟩ : ∃ z, d = z + 1 := ⟨d - 1, by omega⟩
  refine CallD_of jmt_X9_text rfl ⟨rfl, Nat.le_of_ble_eq_true rfl⟩ ?_
  exact ufX9_text hK (Nat.le_of_succ_le_succ hd) rfl rfl h rfl
noncomputable def bX8_untell_37 (w0 : Nat) (y0 : Int32) (m : Mem) : Option (Int32 × Mem) := some (y0, (mput m (cw 0 (27 + 3 * w0)) 0 (0 : Int32)))
noncomputable def fX8_untell (x1 : Int32) (m : Mem) : Option (Int32 × Mem) := (if (fX8_within x1 (0 : Int32) (2 : Int32)) = 0 then (fX8_no (1 : Int32) m).bind fun q2 => some (q2.1, q2.2) else (if inb x1 3 then (if (fX5_isTold 0 x1.toNatClampNeg m) = 0 then bX8_untell_37 (x1.toNatClampNeg) (0 : Int32) m else bX8_untell_37 (x1.toNatClampNeg) (1 : Int32) m) else none))
theorem tbX8_untell_37 {xs : List Int32} {d : Nat} {r : jR} {K : Mem → List jE} (hK : Ctx shC K) (hd : 1 ≤ d)  {w0 : Nat} {y0 : Int32} {m : Mem} (hw0 : w0 < 3) {L : List (Nat × Value)} (l2 : jget L 2 = some (.ref (cw 0 (27 + 3 * w0)))) {t : (Int32 × Mem)} (h : bX8_untell_37 w0 y0 m = some t) (hq : (qIM r K) t) : RunD (jcs xs) d 4 (some .int) jt_X8_untell (37, L, [.int y0], (K m)) r := by
  unfold bX8_untell_37 at h
  refine R_istore_n (p := 38) rfl rfl rfl ?_
  refine R_aload_n (p := 39) rfl (jg_ne l2 rfl) rfl ?_
  refine R_iconst (p := 40) rfl ki_0 rfl ?_
  refine R_putI (p := 43) hK rfl (s_text (by decide) hw0) rfl rfl rfl ?_
  refine R_iload_n (p := 44) rfl jg_self rfl ?_
  obtain rfl := Option.some.inj h
  exact R_ireturn rfl rfl hq
theorem ufX8_untell {xs : List Int32} {d : Nat} {r : jR} {K : Mem → List jE} (hK : Ctx shC K) (hd : 1 ≤ d) {x1 : Int32} {m : Mem} {L : List (Nat × Value)} (l0 : jget L 0 = some (.ref 0)) (l1 : jget L 1 = some (.int x1)) {t : (Int32 × Mem)} (h : fX8_untell x1 m = some t) (hq : (qIM r K) t) : RunD (jcs xs) d 4 (some .int) jt_X8_untell (0, L, [], (K m)) r := by
  unfold fX8_untell at h
  refine R_iload_n (p := 1) rfl l1 rfl ?_
  refine R_iconst (p := 2) rfl ki_0 rfl ?_
  refine R_iconst (p := 3) rfl ki_2 rfl ?_
  refine R_cS3v (p := 6) rfl (tfX8_within (Nat.le_trans (by decide) hd) ) rfl rfl ?_
  by_cases hc : (fX8_within x1 (0 : Int32) (2 : Int32)) = 0
  · replace h := ite_t h hc
    refine R_ifne_f (p := 9) rfl (fun z => z hc) rfl ?_
    refine R_aload_n (p := 10) rfl l0 rfl ?_
    refine R_iconst (p := 11) rfl ki_1 rfl ?_
    obtain ⟨q2, eq2, h⟩ := bind_some h
    refine R_cV2v (p := 14) hK rfl rfl (tfX8_no hK (Nat.le_trans (by decide) hd)  eq2) rfl rfl ?_
    obtain rfl := Option.some.inj h
    exact R_ireturn rfl rfl hq
  · replace h := ite_f h hc
    refine R_ifne_t rfl hc ?_
    refine R_aload_n (p := 16) rfl l0 rfl ?_
    refine R_getR (p := 19) (q := (cw 0 1)) hK rfl rfl rfl rfl ?_
    refine R_getR (p := 22) (q := (cw 0 26)) hK rfl (s_w1 (by decide)) rfl rfl ?_
    refine R_iload_n (p := 23) rfl l1 rfl ?_
    obtain ⟨b3, h⟩ := gd h
    refine R_aald (p := 24) (q := (cw 0 (27 + 3 * x1.toNatClampNeg))) hK rfl (s_w26 (by decide)) (by decide) b3.1 (l_text b3.2) rfl ?_
    refine R_astore_n (p := 25) rfl rfl rfl ?_
    refine R_aload_n (p := 26) rfl jg_self rfl ?_
    refine R_cV1v (p := 29) hK rfl (s_text (by decide) b3.2) (tfX5_isTold hK (Nat.le_trans (by decide) hd) (by decide) b3.2) rfl rfl ?_
    by_cases hc : (fX5_isTold 0 x1.toNatClampNeg m) = 0
    · replace h := ite_t h hc
      refine R_ifeq_t rfl hc ?_
      refine R_iconst (p := 37) rfl ki_0 rfl ?_
      exact tbX8_untell_37 hK hd b3.2 jg_self h hq
    · replace h := ite_f h hc
      refine R_ifeq_f (p := 32) rfl hc rfl ?_
      refine R_iconst (p := 33) rfl ki_1 rfl ?_
      refine R_goto rfl ?_
      exact tbX8_untell_37 hK hd b3.2 jg_self h hq
theorem tfX8_untell {xs : List Int32} {d : Nat} {K : Mem → List jE} (hK : Ctx shC K) (hd : 2 ≤ d) {x1 : Int32} {m : Mem} {t : (Int32 × Mem)} (h : fX8_untell x1 m = some t) : CallD (jcs xs) d 119 [.ref 0, .int x1] (K m) (some (.int t.1), K t.2) := by
  obtain ⟨d, rfl⟩ : ∃ z, d = z + 1 := ⟨d - 1, by omega⟩
  refine CallD_of jmt_X8_untell rfl ⟨rfl, Nat.le_of_ble_eq_true rfl⟩ ?_
  exact ufX8_untell hK (Nat.le_of_succ_le_succ hd) rfl rfl h rfl
noncomputable def fX9_untell (x1 : Int32) (m : Mem) : Option (Int32 × Mem) := (if (fX9_within x1 (0 : Int32) (2 : Int32)) = 0 then (fX9_finding (-1000001 : Int32) m).bind fun q2 => some (q2.1, q2.2) else (fX9_comes ((896 : Int32) + ((62 : Int32) * x1)) (0 : Int32) m).bind fun q3 => (if q3.1 ≤ 0 then some ((0 : Int32), q3.2) else some ((1 : Int32), q3.2)))
theorem ufX9_untell {xs : List Int32} {d : Nat} {r : jR} {K : Mem → List jE} (hK : Ctx shR K) (hd : 1 ≤ d) {x1 : Int32} {m : Mem} {L : List (Nat × Value)} (l0 : jget L 0 = some (.ref 137)) (l1 : jget L 1 = some (.int x1)) {t : (Int32 × Mem)} (h : fX9_untell x1 m = some t) (hq : (qIM r K) t) : RunD (jcs xs) d 2 (some .int) jt_X9_untell (0, L, [], (K m)) r := by
  unfold fX9_untell at h
  refine R_iload_n (p := 1) rfl l1 rfl ?_
  refine R_iconst (p := 2) rfl ki_0 rfl ?_
  refine R_iconst (p := 3) rfl ki_2 rfl ?_
  refine R_cS3v (p := 6) rfl (tfX9_within (Nat.le_trans (by decide) hd) ) rfl rfl ?_
  by_cases hc : (fX9_within x1 (0 : Int32) (2 : Int32)) = 0
  · replace h := ite_t h hc
    refine R_ifeq_t rfl hc ?_
    refine R_aload_n (p := 34) rfl l0 rfl ?_
    refine R_ldc (p := 36) rfl kl_m1000001 rfl ?_
    obtain ⟨q2, eq2, h⟩ := bind_some h
    refine R_cV2v (p := 39) hK rfl rfl (tfX9_finding hK (Nat.le_trans (by decide) hd)  eq2) rfl rfl ?_
    obtain rfl := Option.some.inj h
    exact R_ireturn rfl rfl hq
  · replace h := ite_f h hc
    refine R_ifeq_f (p := 9) rfl hc rfl ?_
    refine R_aload_n (p := 10) rfl l0 rfl ?_
    refine R_sipush (p := 13) rfl ks_896 rfl ?_
    refine R_bipush (p := 15) rfl kb_62 rfl ?_
    refine R_iload_n (p := 16) rfl l1 rfl ?_
    refine R_imul (p := 17) rfl rfl ?_
    refine R_iadd (p := 18) rfl rfl ?_
    refine R_iconst (p := 19) rfl ki_0 rfl ?_
    obtain ⟨q3, eq3, h⟩ := bind_some h
    refine R_cV3v (p := 22) hK rfl rfl (tfX9_comes hK (Nat.le_trans (by decide) hd)  eq3) rfl rfl ?_
    by_cases hc : q3.1 ≤ 0
    · replace h := ite_t h hc
      refine R_ifle_t rfl hc ?_
      refine R_iconst (p := 30) rfl ki_0 rfl ?_
      refine R_goto rfl ?_
      obtain rfl := Option.some.inj h
      exact R_ireturn rfl rfl hq
    · replace h := ite_f h hc
      refine R_ifle_f (p := 25) rfl hc rfl ?_
      refine R_iconst (p := 26) rfl ki_1 rfl ?_
      refine R_goto rfl ?_
      obtain rfl := Option.some.inj h
      exact R_ireturn rfl rfl hq
theorem tfX9_untell {xs : List Int32} {d : Nat} {K : Mem → List jE} (hK : Ctx shR K) (hd : 2 ≤ d) {x1 : Int32} {m : Mem} {t : (Int32 × Mem)} (h : fX9_untell x1 m = some t) : CallD (jcs xs) d 203 [.ref 137, .int x1] (K m) (some (.int t.1), K t.2) := by
  obtain ⟨d, rfl⟩ : ∃ z, d = z + 1 := ⟨d - 1, by omega⟩
  refine CallD_of jmt_X9_untell rfl ⟨rfl, Nat.le_of_ble_eq_true rfl⟩ ?_
  exact ufX9_untell hK (Nat.le_of_succ_le_succ hd) rfl rfl h rfl
noncomputable def bX8_rule_114 (m : Mem) : Option (Int32 × Mem) := (fX8_no (1 : Int32) m).bind fun q8 => some (q8.1, q8.2)
noncomputable def fX8_rule (x1 : Int32) (x2 : Int32) (m : Mem) : Option (Int32 × Mem) := (if x1 = (0 : Int32) then (if (fX8_within x2 (0 : Int32) (99 : Int32)) = 0 then (fX8_no (1 : Int32) m).bind fun q2 => some (q2.1, q2.2) else some ((m (cw 0 1) 6), (mput m (cw 0 1) 6 x2))) else (if x1 = (1 : Int32) then (if (fX8_within x2 (0 : Int32) (999 : Int32)) = 0 then (fX8_no (1 : Int32) m).bind fun q5 => some (q5.1, q5.2) else some ((m (cw 0 1) 7), (mput m (cw 0 1) 7 x2))) else (if x1 = (2 : Int32) then (if (fX8_within x2 (1 : Int32) (99 : Int32)) = 0 then bX8_rule_114 m else (if (x2 - x2 / (10 : Int32) * (10 : Int32)) = 0 then bX8_rule_114 m else some ((m (cw 0 1) 8), (mput m (cw 0 1) 8 x2)))) else (fX8_no (1 : Int32) m).bind fun q10 => some (q10.1, q10.2))))
theorem tbX8_rule_114 {xs : List Int32} {d : Nat} {r : jR} {K : Mem → List jE} (hK : Ctx shC K) (hd : 1 ≤ d)  {m : Mem} {L : List (Nat × Value)} (l0 : jget L 0 = some (.ref 0)) {t : (Int32 × Mem)} (h : bX8_rule_114 m = some t) (hq : (qIM r K) t) : RunD (jcs xs) d 4 (some .int) jt_X8_rule (114, L, [], (K m)) r := by
  unfold bX8_rule_114 at h
  refine R_aload_n (p := 115) rfl l0 rfl ?_
  refine R_iconst (p := 116) rfl ki_1 rfl ?_
  obtain ⟨q8, eq8, h⟩ := bind_some h
  refine R_cV2v (p := 119) hK rfl rfl (tfX8_no hK (Nat.le_trans (by decide) hd)  eq8) rfl rfl ?_
  obtain rfl := Option.some.inj h
  exact R_ireturn rfl rfl hq
theorem ufX8_rule {xs : List Int32} {d : Nat} {r : jR} {K : Mem → List jE} (hK : Ctx shC K) (hd : 1 ≤ d) {x1 : Int32} {x2 : Int32} {m : Mem} {L : List (Nat × Value)} (l0 : jget L 0 = some (.ref 0)) (l1 : jget L 1 = some (.int x1)) (l2 : jget L 2 = some (.int x2)) {t : (Int32 × Mem)} (h : fX8_rule x1 x2 m = some t) (hq : (qIM r K) t) : RunD (jcs xs) d 4 (some .int) jt_X8_rule (0, L, [], (K m)) r := by
  unfold fX8_rule at h
  refine R_iload_n (p := 1) rfl l1 rfl ?_
  by_cases n3 : x1 = (0 : Int32)
  · replace h := ite_t h n3
    refine R_tsw (p := 28) rfl rfl (by rw [n3]; decide +kernel) ?_
    refine R_iload_n (p := 29) rfl l2 rfl ?_
    refine R_iconst (p := 30) rfl ki_0 rfl ?_
    refine R_bipush (p := 32) rfl kb_99 rfl ?_
    refine R_cS3v (p := 35) rfl (tfX8_within (Nat.le_trans (by decide) hd) ) rfl rfl ?_
    by_cases hc : (fX8_within x2 (0 : Int32) (99 : Int32)) = 0
    · replace h := ite_t h hc
      refine R_ifne_f (p := 38) rfl (fun z => z hc) rfl ?_
      refine R_aload_n (p := 39) rfl l0 rfl ?_
      refine R_iconst (p := 40) rfl ki_1 rfl ?_
      obtain ⟨q2, eq2, h⟩ := bind_some h
      refine R_cV2v (p := 43) hK rfl rfl (tfX8_no hK (Nat.le_trans (by decide) hd)  eq2) rfl rfl ?_
      obtain rfl := Option.some.inj h
      exact R_ireturn rfl rfl hq
    · replace h := ite_f h hc
      refine R_ifne_t rfl hc ?_
      refine R_aload_n (p := 45) rfl l0 rfl ?_
      refine R_getR (p := 48) (q := (cw 0 1)) hK rfl rfl rfl rfl ?_
      refine R_getI (p := 51) hK rfl (s_w1 (by decide)) rfl rfl ?_
      refine R_istore_n (p := 52) rfl rfl rfl ?_
      refine R_aload_n (p := 53) rfl (jg_ne l0 rfl) rfl ?_
      refine R_getR (p := 56) (q := (cw 0 1)) hK rfl rfl rfl rfl ?_
      refine R_iload_n (p := 57) rfl (jg_ne l2 rfl) rfl ?_
      refine R_putI (p := 60) hK rfl (s_w1 (by decide)) rfl rfl rfl ?_
      refine R_iload_n (p := 61) rfl jg_self rfl ?_
      obtain rfl := Option.some.inj h
      exact R_ireturn rfl rfl hq
  replace h := ite_f h n3
  by_cases n6 : x1 = (1 : Int32)
  · replace h := ite_t h n6
    refine R_tsw (p := 62) rfl rfl (by rw [n6]; decide +kernel) ?_
    refine R_iload_n (p := 63) rfl l2 rfl ?_
    refine R_iconst (p := 64) rfl ki_0 rfl ?_
    refine R_sipush (p := 67) rfl ks_999 rfl ?_
    refine R_cS3v (p := 70) rfl (tfX8_within (Nat.le_trans (by decide) hd) ) rfl rfl ?_
    by_cases hc : (fX8_within x2 (0 : Int32) (999 : Int32)) = 0
    · replace h := ite_t h hc
      refine R_ifne_f (p := 73) rfl (fun z => z hc) rfl ?_
      refine R_aload_n (p := 74) rfl l0 rfl ?_
      refine R_iconst (p := 75) rfl ki_1 rfl ?_
      obtain ⟨q5, eq5, h⟩ := bind_some h
      refine R_cV2v (p := 78) hK rfl rfl (tfX8_no hK (Nat.le_trans (by decide) hd)  eq5) rfl rfl ?_
      obtain rfl := Option.some.inj h
      exact R_ireturn rfl rfl hq
    · replace h := ite_f h hc
      refine R_ifne_t rfl hc ?_
      refine R_aload_n (p := 80) rfl l0 rfl ?_
      refine R_getR (p := 83) (q := (cw 0 1)) hK rfl rfl rfl rfl ?_
      refine R_getI (p := 86) hK rfl (s_w1 (by decide)) rfl rfl ?_
      refine R_istore_n (p := 87) rfl rfl rfl ?_
      refine R_aload_n (p := 88) rfl (jg_ne l0 rfl) rfl ?_
      refine R_getR (p := 91) (q := (cw 0 1)) hK rfl rfl rfl rfl ?_
      refine R_iload_n (p := 92) rfl (jg_ne l2 rfl) rfl ?_
      refine R_putI (p := 95) hK rfl (s_w1 (by decide)) rfl rfl rfl ?_
      refine R_iload_n (p := 96) rfl jg_self rfl ?_
      obtain rfl := Option.some.inj h
      exact R_ireturn rfl rfl hq
  replace h := ite_f h n6
  by_cases n9 : x1 = (2 : Int32)
  · replace h := ite_t h n9
    refine R_tsw (p := 97) rfl rfl (by rw [n9]; decide +kernel) ?_
    refine R_iload_n (p := 98) rfl l2 rfl ?_
    refine R_iconst (p := 99) rfl ki_1 rfl ?_
    refine R_bipush (p := 101) rfl kb_99 rfl ?_
    refine R_cS3v (p := 104) rfl (tfX8_within (Nat.le_trans (by decide) hd) ) rfl rfl ?_
    by_cases hc : (fX8_within x2 (1 : Int32) (99 : Int32)) = 0
    · replace h := ite_t h hc
      refine R_ifeq_t rfl hc ?_
      exact tbX8_rule_114 hK hd l0 h hq
    · replace h := ite_f h hc
      refine R_ifeq_f (p := 107) rfl hc rfl ?_
      refine R_iload_n (p := 108) rfl l2 rfl ?_
      refine R_bipush (p := 110) rfl kb_10 rfl ?_
      refine R_irem (p := 111) rfl (by decide) rfl ?_
      by_cases hc : (x2 - x2 / (10 : Int32) * (10 : Int32)) = 0
      · replace h := ite_t h hc
        refine R_ifne_f (p := 114) rfl (fun z => z hc) rfl ?_
        exact tbX8_rule_114 hK hd l0 h hq
      · replace h := ite_f h hc
        refine R_ifne_t rfl hc ?_
        refine R_aload_n (p := 121) rfl l0 rfl ?_
        refine R_getR (p := 124) (q := (cw 0 1)) hK rfl rfl rfl rfl ?_
        refine R_getI (p := 127) hK rfl (s_w1 (by decide)) rfl rfl ?_
        refine R_istore_n (p := 128) rfl rfl rfl ?_
        refine R_aload_n (p := 129) rfl (jg_ne l0 rfl) rfl ?_
        refine R_getR (p := 132) (q := (cw 0 1)) hK rfl rfl rfl rfl ?_
        refine R_iload_n (p := 133) rfl (jg_ne l2 rfl) rfl ?_
        refine R_putI (p := 136) hK rfl (s_w1 (by decide)) rfl rfl rfl ?_
        refine R_iload_n (p := 137) rfl jg_self rfl ?_
        obtain rfl := Option.some.inj h
        exact R_ireturn rfl rfl hq
  replace h := ite_f h n9
  refine R_tsw (p := 138) rfl rfl (tsw_d [(0 : Int32), (1 : Int32), (2 : Int32)] (List.forall_mem_cons.mpr ⟨n3, List.forall_mem_cons.mpr ⟨n6, List.forall_mem_cons.mpr ⟨n9, fun _ h9 => absurd h9 List.not_mem_nil⟩⟩⟩) (by decide +kernel) rfl) ?_
  refine R_aload_n (p := 139) rfl l0 rfl ?_
  refine R_iconst (p := 140) rfl ki_1 rfl ?_
  obtain ⟨q10, eq10, h⟩ := bind_some h
  refine R_cV2v (p := 143) hK rfl rfl (tfX8_no hK (Nat.le_trans (by decide) hd)  eq10) rfl rfl ?_
  obtain rfl := Option.some.inj h
  exact R_ireturn rfl rfl hq
theorem tfX8_rule {xs : List Int32} {d : Nat} {K : Mem → List jE} (hK : Ctx shC K) (hd : 2 ≤ d) {x1 : Int32} {x2 : Int32} {m : Mem} {t : (Int32 × Mem)} (h : fX8_rule x1 x2 m = some t) : CallD (jcs xs) d 120 [.ref 0, .int x1, .int x2] (K m) (some (.int t.1), K t.2) := by
  obtain ⟨d, rfl⟩ : ∃ z, d = z + 1 := ⟨d - 1, by omega⟩
  refine CallD_of jmt_X8_rule rfl ⟨rfl, Nat.le_of_ble_eq_true rfl⟩ ?_
  exact ufX8_rule hK (Nat.le_of_succ_le_succ hd) rfl rfl rfl h rfl
noncomputable def bX9_rule_57 (x1 : Int32) (x2 : Int32) (y0 : Int32) (m : Mem) : Option (Int32 × Mem) := (if y0 = 0 then (fX9_finding (-1000001 : Int32) m).bind fun q2 => some (q2.1, q2.2) else (fX9_comes ((4 : Int32) + x1) x2 m).bind fun q3 => some (q3.1, q3.2))
noncomputable def fX9_rule (x1 : Int32) (x2 : Int32) (m : Mem) : Option (Int32 × Mem) := (if x1 = 0 then bX9_rule_57 x1 x2 (fX9_within x2 (0 : Int32) (99 : Int32)) m else (if x1 = (1 : Int32) then bX9_rule_57 x1 x2 (fX9_within x2 (0 : Int32) (999 : Int32)) m else (if x1 = (2 : Int32) then (if (fX9_within x2 (1 : Int32) (99 : Int32)) = 0 then bX9_rule_57 x1 x2 (0 : Int32) m else (if (x2 - x2 / (10 : Int32) * (10 : Int32)) ≤ 0 then bX9_rule_57 x1 x2 (0 : Int32) m else bX9_rule_57 x1 x2 (1 : Int32) m)) else bX9_rule_57 x1 x2 (0 : Int32) m)))
theorem tbX9_rule_57 {xs : List Int32} {d : Nat} {r : jR} {K : Mem → List jE} (hK : Ctx shR K) (hd : 1 ≤ d)  {x1 : Int32} {x2 : Int32} {y0 : Int32} {m : Mem} {L : List (Nat × Value)} (l0 : jget L 0 = some (.ref 137)) (l1 : jget L 1 = some (.int x1)) (l2 : jget L 2 = some (.int x2)) {t : (Int32 × Mem)} (h : bX9_rule_57 x1 x2 y0 m = some t) (hq : (qIM r K) t) : RunD (jcs xs) d 4 (some .int) jt_X9_rule (57, L, [.int y0], (K m)) r := by
  unfold bX9_rule_57 at h
  refine R_istore_n (p := 58) rfl rfl rfl ?_
  refine R_iload_n (p := 59) rfl jg_self rfl ?_
  by_cases hc : y0 = 0
  · replace h := ite_t h hc
    refine R_ifeq_t rfl hc ?_
    refine R_aload_n (p := 74) rfl (jg_ne l0 rfl) rfl ?_
    refine R_ldc (p := 76) rfl kl_m1000001 rfl ?_
    obtain ⟨q2, eq2, h⟩ := bind_some h
    refine R_cV2v (p := 79) hK rfl rfl (tfX9_finding hK (Nat.le_trans (by decide) hd)  eq2) rfl rfl ?_
    obtain rfl := Option.some.inj h
    exact R_ireturn rfl rfl hq
  · replace h := ite_f h hc
    refine R_ifeq_f (p := 62) rfl hc rfl ?_
    refine R_aload_n (p := 63) rfl (jg_ne l0 rfl) rfl ?_
    refine R_iconst (p := 64) rfl ki_4 rfl ?_
    refine R_iload_n (p := 65) rfl (jg_ne l1 rfl) rfl ?_
    refine R_iadd (p := 66) rfl rfl ?_
    refine R_iload_n (p := 67) rfl (jg_ne l2 rfl) rfl ?_
    obtain ⟨q3, eq3, h⟩ := bind_some h
    refine R_cV3v (p := 70) hK rfl rfl (tfX9_comes hK (Nat.le_trans (by decide) hd)  eq3) rfl rfl ?_
    refine R_goto rfl ?_
    obtain rfl := Option.some.inj h
    exact R_ireturn rfl rfl hq
theorem ufX9_rule {xs : List Int32} {d : Nat} {r : jR} {K : Mem → List jE} (hK : Ctx shR K) (hd : 1 ≤ d) {x1 : Int32} {x2 : Int32} {m : Mem} {L : List (Nat × Value)} (l0 : jget L 0 = some (.ref 137)) (l1 : jget L 1 = some (.int x1)) (l2 : jget L 2 = some (.int x2)) {t : (Int32 × Mem)} (h : fX9_rule x1 x2 m = some t) (hq : (qIM r K) t) : RunD (jcs xs) d 4 (some .int) jt_X9_rule (0, L, [], (K m)) r := by
  unfold fX9_rule at h
  refine R_iload_n (p := 1) rfl l1 rfl ?_
  by_cases hc : x1 = 0
  · replace h := ite_t h hc
    refine R_ifne_f (p := 4) rfl (fun z => z hc) rfl ?_
    refine R_iload_n (p := 5) rfl l2 rfl ?_
    refine R_iconst (p := 6) rfl ki_0 rfl ?_
    refine R_bipush (p := 8) rfl kb_99 rfl ?_
    refine R_cS3v (p := 11) rfl (tfX9_within (Nat.le_trans (by decide) hd) ) rfl rfl ?_
    refine R_goto rfl ?_
    exact tbX9_rule_57 hK hd l0 l1 l2 h hq
  · replace h := ite_f h hc
    refine R_ifne_t rfl hc ?_
    refine R_iload_n (p := 15) rfl l1 rfl ?_
    refine R_iconst (p := 16) rfl ki_1 rfl ?_
    by_cases hc : x1 = (1 : Int32)
    · replace h := ite_t h hc
      refine R_icne_f (p := 19) rfl (fun z => z hc) rfl ?_
      refine R_iload_n (p := 20) rfl l2 rfl ?_
      refine R_iconst (p := 21) rfl ki_0 rfl ?_
      refine R_sipush (p := 24) rfl ks_999 rfl ?_
      refine R_cS3v (p := 27) rfl (tfX9_within (Nat.le_trans (by decide) hd) ) rfl rfl ?_
      refine R_goto rfl ?_
      exact tbX9_rule_57 hK hd l0 l1 l2 h hq
    · replace h := ite_f h hc
      refine R_icne_t rfl hc ?_
      refine R_iload_n (p := 31) rfl l1 rfl ?_
      refine R_iconst (p := 32) rfl ki_2 rfl ?_
      by_cases hc : x1 = (2 : Int32)
      · replace h := ite_t h hc
        refine R_icne_f (p := 35) rfl (fun z => z hc) rfl ?_
        refine R_iload_n (p := 36) rfl l2 rfl ?_
        refine R_iconst (p := 37) rfl ki_1 rfl ?_
        refine R_bipush (p := 39) rfl kb_99 rfl ?_
        refine R_cS3v (p := 42) rfl (tfX9_within (Nat.le_trans (by decide) hd) ) rfl rfl ?_
        by_cases hc : (fX9_within x2 (1 : Int32) (99 : Int32)) = 0
        · replace h := ite_t h hc
          refine R_ifeq_t rfl hc ?_
          refine R_iconst (p := 57) rfl ki_0 rfl ?_
          exact tbX9_rule_57 hK hd l0 l1 l2 h hq
        · replace h := ite_f h hc
          refine R_ifeq_f (p := 45) rfl hc rfl ?_
          refine R_iload_n (p := 46) rfl l2 rfl ?_
          refine R_bipush (p := 48) rfl kb_10 rfl ?_
          refine R_irem (p := 49) rfl (by decide) rfl ?_
          by_cases hc : (x2 - x2 / (10 : Int32) * (10 : Int32)) ≤ 0
          · replace h := ite_t h hc
            refine R_ifle_t rfl hc ?_
            refine R_iconst (p := 57) rfl ki_0 rfl ?_
            exact tbX9_rule_57 hK hd l0 l1 l2 h hq
          · replace h := ite_f h hc
            refine R_ifle_f (p := 52) rfl hc rfl ?_
            refine R_iconst (p := 53) rfl ki_1 rfl ?_
            refine R_goto rfl ?_
            exact tbX9_rule_57 hK hd l0 l1 l2 h hq
      · replace h := ite_f h hc
        refine R_icne_t rfl hc ?_
        refine R_iconst (p := 57) rfl ki_0 rfl ?_
        exact tbX9_rule_57 hK hd l0 l1 l2 h hq
theorem tfX9_rule {xs : List Int32} {d : Nat} {K : Mem → List jE} (hK : Ctx shR K) (hd : 2 ≤ d) {x1 : Int32} {x2 : Int32} {m : Mem} {t : (Int32 × Mem)} (h : fX9_rule x1 x2 m = some t) : CallD (jcs xs) d 208 [.ref 137, .int x1, .int x2] (K m) (some (.int t.1), K t.2) := by
  obtain ⟨d, rfl⟩ : ∃ z, d = z + 1 := ⟨d - 1, by omega⟩
  refine CallD_of jmt_X9_rule rfl ⟨rfl, Nat.le_of_ble_eq_true rfl⟩ ?_
  exact ufX9_rule hK (Nat.le_of_succ_le_succ hd) rfl rfl rfl h rfl
noncomputable def fX7_law (k : Nat) (x1 : Int32) (x2 : Int32) (m : Mem) : Option (Int32 × Mem) := (if (fX5_isTold k 0 m) = 0 then (if inb x2 16 then (if inb x1 16 then some (((m (cw k 7) x2.toNatClampNeg) - (m (cw k 7) x1.toNatClampNeg)), m) else none) else none) else (if inb x1 16 then (if inb x2 16 then (if inb x1 16 then (if inb x2 16 then (fX5_value_5 k 0 (cw k 38) (fX7_name k (m (cw k 7) x1.toNatClampNeg) (m (cw k 7) x2.toNatClampNeg) (m (cw k 4) x1.toNatClampNeg) (m (cw k 4) x2.toNatClampNeg) (m (cw k 1) 10) m)).bind fun q9 => some (q9.1, q9.2) else none) else none) else none) else none))
theorem ufX7_law {xs : List Int32} {d : Nat} {r : jR} {K : Mem → List jE} (hK : Ctx shC K) (hd : 2 ≤ d) {k : Nat} (hk : k < 3) {x1 : Int32} {x2 : Int32} {m : Mem} {L : List (Nat × Value)} (l0 : jget L 0 = some (.ref (cw k 1))) (l1 : jget L 1 = some (.int x1)) (l2 : jget L 2 = some (.int x2)) {t : (Int32 × Mem)} (h : fX7_law k x1 x2 m = some t) (hq : (qIM r K) t) : RunD (jcs xs) d 3 (some .int) jt_X7_law (0, L, [], (K m)) r := by
  unfold fX7_law at h
  refine R_aload_n (p := 1) rfl l0 rfl ?_
  refine R_getR (p := 4) (q := (cw k 26)) hK rfl (s_w1 hk) rfl rfl ?_
  refine R_iconst (p := 5) rfl ki_0 rfl ?_
  refine R_aalk (p := 6) (q := (cw k (27 + 3 * 0))) hK rfl (s_w26 hk) (by decide) (by decide) kn_0 (l_text (by decide)) rfl ?_
  refine R_cV1v (p := 9) hK rfl (s_text hk (by decide)) (tfX5_isTold hK (Nat.le_trans (by decide) hd) hk (by decide)) rfl rfl ?_
  by_cases hc : (fX5_isTold k 0 m) = 0
  · replace h := ite_t h hc
    refine R_ifne_f (p := 12) rfl (fun z => z hc) rfl ?_
    refine R_aload_n (p := 13) rfl l0 rfl ?_
    refine R_getR (p := 16) (q := (cw k 2)) hK rfl (s_w1 hk) rfl rfl ?_
    refine R_getR (p := 19) (q := (cw k 7)) hK rfl (s_w2 hk) rfl rfl ?_
    refine R_iload_n (p := 20) rfl l2 rfl ?_
    obtain ⟨b2, h⟩ := gd h
    refine R_iald (p := 21) hK rfl (s_w7 hk) b2 rfl ?_
    refine R_aload_n (p := 22) rfl l0 rfl ?_
    refine R_getR (p := 25) (q := (cw k 2)) hK rfl (s_w1 hk) rfl rfl ?_
    refine R_getR (p := 28) (q := (cw k 7)) hK rfl (s_w2 hk) rfl rfl ?_
    refine R_iload_n (p := 29) rfl l1 rfl ?_
    obtain ⟨b3, h⟩ := gd h
    refine R_iald (p := 30) hK rfl (s_w7 hk) b3 rfl ?_
    refine R_isub (p := 31) rfl rfl ?_
    obtain rfl := Option.some.inj h
    exact R_ireturn rfl rfl hq
  · replace h := ite_f h hc
    refine R_ifne_t rfl hc ?_
    refine R_aload_n (p := 33) rfl l0 rfl ?_
    refine R_aload_n (p := 34) rfl l0 rfl ?_
    refine R_getR (p := 37) (q := (cw k 2)) hK rfl (s_w1 hk) rfl rfl ?_
    refine R_getR (p := 40) (q := (cw k 7)) hK rfl (s_w2 hk) rfl rfl ?_
    refine R_iload_n (p := 41) rfl l1 rfl ?_
    obtain ⟨b4, h⟩ := gd h
    refine R_iald (p := 42) hK rfl (s_w7 hk) b4 rfl ?_
    refine R_aload_n (p := 43) rfl l0 rfl ?_
    refine R_getR (p := 46) (q := (cw k 2)) hK rfl (s_w1 hk) rfl rfl ?_
    refine R_getR (p := 49) (q := (cw k 7)) hK rfl (s_w2 hk) rfl rfl ?_
    refine R_iload_n (p := 50) rfl l2 rfl ?_
    obtain ⟨b5, h⟩ := gd h
    refine R_iald (p := 51) hK rfl (s_w7 hk) b5 rfl ?_
    refine R_aload_n (p := 52) rfl l0 rfl ?_
    refine R_getR (p := 55) (q := (cw k 2)) hK rfl (s_w1 hk) rfl rfl ?_
    refine R_getR (p := 58) (q := (cw k 4)) hK rfl (s_w2 hk) rfl rfl ?_
    refine R_iload_n (p := 59) rfl l1 rfl ?_
    obtain ⟨b6, h⟩ := gd h
    refine R_iald (p := 60) hK rfl (s_w4 hk) b6 rfl ?_
    refine R_aload_n (p := 61) rfl l0 rfl ?_
    refine R_getR (p := 64) (q := (cw k 2)) hK rfl (s_w1 hk) rfl rfl ?_
    refine R_getR (p := 67) (q := (cw k 4)) hK rfl (s_w2 hk) rfl rfl ?_
    refine R_iload_n (p := 68) rfl l2 rfl ?_
    obtain ⟨b7, h⟩ := gd h
    refine R_iald (p := 69) hK rfl (s_w4 hk) b7 rfl ?_
    refine R_aload_n (p := 70) rfl l0 rfl ?_
    refine R_getI (p := 73) hK rfl (s_w1 hk) rfl rfl ?_
    refine R_cV6n (p := 76) hK rfl (s_w1 hk) (tfX7_name hK (Nat.le_trans (by decide) hd) hk) rfl rfl ?_
    refine R_aload_n (p := 77) rfl l0 rfl ?_
    refine R_getR (p := 80) (q := (cw k 26)) hK rfl (s_w1 hk) rfl rfl ?_
    refine R_iconst (p := 81) rfl ki_0 rfl ?_
    refine R_aalk (p := 82) (q := (cw k (27 + 3 * 0))) hK rfl (s_w26 hk) (by decide) (by decide) kn_0 (l_text (by decide)) rfl ?_
    refine R_aload_n (p := 83) rfl l0 rfl ?_
    refine R_getR (p := 86) (q := (cw k 38)) hK rfl (s_w1 hk) rfl rfl ?_
    obtain ⟨q9, eq9, h⟩ := bind_some h
    refine R_cV2v (p := 89) hK rfl (s_text hk (by decide)) (tfX5_value_5 hK (Nat.le_trans (by decide) hd) hk (by decide) (s_w38 hk) eq9) rfl rfl ?_
    obtain rfl := Option.some.inj h
    exact R_ireturn rfl rfl hq
theorem tfX7_law {xs : List Int32} {d : Nat} {K : Mem → List jE} (hK : Ctx shC K) (hd : 3 ≤ d) {k : Nat} (hk : k < 3) {x1 : Int32} {x2 : Int32} {m : Mem} {t : (Int32 × Mem)} (h : fX7_law k x1 x2 m = some t) : CallD (jcs xs) d 85 [.ref (cw k 1), .int x1, .int x2] (K m) (some (.int t.1), K t.2) := by
  obtain ⟨d, rfl⟩ : ∃ z, d = z + 1 := ⟨d - 1, by omega⟩
  refine CallD_of jmt_X7_law rfl ⟨rfl, Nat.le_of_ble_eq_true rfl⟩ ?_
  exact ufX7_law hK (Nat.le_of_succ_le_succ hd) hk rfl rfl rfl h rfl
noncomputable def fJ9_min_f86c9 (x0 : Int64) (x2 : Int64) : Int64 := (if 0 < (lg_cmp x0 x2) then x2 else x0)
theorem ufJ9_min_f86c9 {xs : List Int32} {d : Nat} {r : jR} {hh : List jE} (hd : 0 ≤ d) {x0 : Int64} {x2 : Int64} {L : List (Nat × Value)} (l0 : jget L 0 = some (.long x0)) (l2 : jget L 2 = some (.long x2)) {t : Int64} (h : fJ9_min_f86c9 x0 x2 = t) (hq : (qL r hh) t) : RunD (jcs xs) d 4 (some .long) jt_J9_min_f86c9 (0, L, [], hh) r := by
  unfold fJ9_min_f86c9 at h
  refine R_lload_n (p := 1) rfl l0 rfl ?_
  refine R_lload_n (p := 2) rfl l2 rfl ?_
  refine R_lcmp (p := 3) rfl rfl ?_
  by_cases hc : 0 < (lg_cmp x0 x2)
  · replace h := ite_t h hc
    refine R_ifgt_t rfl hc ?_
    refine R_lload_n (p := 11) rfl l2 rfl ?_
    subst h
    exact R_lreturn rfl rfl hq
  · replace h := ite_f h hc
    refine R_ifgt_f (p := 6) rfl hc rfl ?_
    refine R_lload_n (p := 7) rfl l0 rfl ?_
    refine R_goto rfl ?_
    subst h
    exact R_lreturn rfl rfl hq
theorem tfJ9_min_f86c9 {xs : List Int32} {d : Nat} {hh : List jE} (hd : 1 ≤ d) {x0 : Int64} {x2 : Int64} : CallD (jcs xs) d 262 [.long x0, .long x2] hh (some (.long (fJ9_min_f86c9 x0 x2)), hh) := by
  obtain ⟨d, rfl⟩ : ∃ z, d = z + 1 := ⟨d - 1, by omega⟩
  refine CallD_of jmt_J9_min_f86c9 rfl ⟨rfl, Nat.le_of_ble_eq_true rfl⟩ ?_
  exact ufJ9_min_f86c9 (Nat.le_of_succ_le_succ hd) rfl rfl rfl rfl
noncomputable def fJ9_max_f86c9 (x0 : Int64) (x2 : Int64) : Int64 := (if (lg_cmp x0 x2) < 0 then x2 else x0)
theorem ufJ9_max_f86c9 {xs : List Int32} {d : Nat} {r : jR} {hh : List jE} (hd : 0 ≤ d) {x0 : Int64} {x2 : Int64} {L : List (Nat × Value)} (l0 : jget L 0 = some (.long x0)) (l2 : jget L 2 = some (.long x2)) {t : Int64} (h : fJ9_max_f86c9 x0 x2 = t) (hq : (qL r hh) t) : RunD (jcs xs) d 4 (some .long) jt_J9_max_f86c9 (0, L, [], hh) r := by
  unfold fJ9_max_f86c9 at h
  refine R_lload_n (p := 1) rfl l0 rfl ?_
  refine R_lload_n (p := 2) rfl l2 rfl ?_
  refine R_lcmp (p := 3) rfl rfl ?_
  by_cases hc : (lg_cmp x0 x2) < 0
  · replace h := ite_t h hc
    refine R_iflt_t rfl hc ?_
    refine R_lload_n (p := 11) rfl l2 rfl ?_
    subst h
    exact R_lreturn rfl rfl hq
  · replace h := ite_f h hc
    refine R_iflt_f (p := 6) rfl hc rfl ?_
    refine R_lload_n (p := 7) rfl l0 rfl ?_
    refine R_goto rfl ?_
    subst h
    exact R_lreturn rfl rfl hq
theorem tfJ9_max_f86c9 {xs : List Int32} {d : Nat} {hh : List jE} (hd : 1 ≤ d) {x0 : Int64} {x2 : Int64} : CallD (jcs xs) d 260 [.long x0, .long x2] hh (some (.long (fJ9_max_f86c9 x0 x2)), hh) := by
  obtain ⟨d, rfl⟩ : ∃ z, d = z + 1 := ⟨d - 1, by omega⟩
  refine CallD_of jmt_J9_max_f86c9 rfl ⟨rfl, Nat.le_of_ble_eq_true rfl⟩ ?_
  exact ufJ9_max_f86c9 (Nat.le_of_succ_le_succ hd) rfl rfl rfl rfl
noncomputable def fX7_passing (k : Nat) (x1 : Int32) (x2 : Int32) (m : Mem) : Option (Int32 × Mem) := (if (fX0_has k x1 m) = 0 then some ((0 : Int32), m) else (if (fX0_has k x2 m) = 0 then some ((0 : Int32), m) else (fX7_law k x1 x2 m).bind fun q3 => (if inb x1 16 then (if inb x2 16 then some ((((((fJ9_max_f86c9 (-9999 : Int64) (fJ9_min_f86c9 (9999 : Int64) (((m (cw k 1) 6).toInt64) * (q3.1.toInt64)))) * ((fX1_lets (q3.2 (cw k 3) x1.toNatClampNeg)).toInt64)) * ((fX1_lets (q3.2 (cw k 3) x2.toNatClampNeg)).toInt64)) / (144 : Int64)).toInt32), q3.2) else none) else none)))
theorem ufX7_passing {xs : List Int32} {d : Nat} {r : jR} {K : Mem → List jE} (hK : Ctx shC K) (hd : 3 ≤ d) {k : Nat} (hk : k < 3) {x1 : Int32} {x2 : Int32} {m : Mem} {L : List (Nat × Value)} (l0 : jget L 0 = some (.ref (cw k 1))) (l1 : jget L 1 = some (.int x1)) (l2 : jget L 2 = some (.int x2)) {t : (Int32 × Mem)} (h : fX7_passing k x1 x2 m = some t) (hq : (qIM r K) t) : RunD (jcs xs) d 5 (some .int) jt_X7_passing (0, L, [], (K m)) r := by
  unfold fX7_passing at h
  refine R_aload_n (p := 1) rfl l0 rfl ?_
  refine R_getR (p := 4) (q := (cw k 2)) hK rfl (s_w1 hk) rfl rfl ?_
  refine R_iload_n (p := 5) rfl l1 rfl ?_
  refine R_cV2v (p := 8) hK rfl (s_w2 hk) (tfX0_has hK (Nat.le_trans (by decide) hd) hk) rfl rfl ?_
  by_cases hc : (fX0_has k x1 m) = 0
  · replace h := ite_t h hc
    refine R_ifeq_t rfl hc ?_
    refine R_iconst (p := 23) rfl ki_0 rfl ?_
    obtain rfl := Option.some.inj h
    exact R_ireturn rfl rfl hq
  · replace h := ite_f h hc
    refine R_ifeq_f (p := 11) rfl hc rfl ?_
    refine R_aload_n (p := 12) rfl l0 rfl ?_
    refine R_getR (p := 15) (q := (cw k 2)) hK rfl (s_w1 hk) rfl rfl ?_
    refine R_iload_n (p := 16) rfl l2 rfl ?_
    refine R_cV2v (p := 19) hK rfl (s_w2 hk) (tfX0_has hK (Nat.le_trans (by decide) hd) hk) rfl rfl ?_
    by_cases hc : (fX0_has k x2 m) = 0
    · replace h := ite_t h hc
      refine R_ifne_f (p := 22) rfl (fun z => z hc) rfl ?_
      refine R_iconst (p := 23) rfl ki_0 rfl ?_
      obtain rfl := Option.some.inj h
      exact R_ireturn rfl rfl hq
    · replace h := ite_f h hc
      refine R_ifne_t rfl hc ?_
      refine R_aload_n (p := 25) rfl l0 rfl ?_
      refine R_getI (p := 28) hK rfl (s_w1 hk) rfl rfl ?_
      refine R_i2l (p := 29) rfl rfl ?_
      refine R_aload_n (p := 30) rfl l0 rfl ?_
      refine R_iload_n (p := 31) rfl l1 rfl ?_
      refine R_iload_n (p := 32) rfl l2 rfl ?_
      obtain ⟨q3, eq3, h⟩ := bind_some h
      refine R_cV3v (p := 35) hK rfl (s_w1 hk) (tfX7_law hK (Nat.le_trans (by decide) hd) hk eq3) rfl rfl ?_
      refine R_i2l (p := 36) rfl rfl ?_
      refine R_lmul (p := 37) rfl rfl ?_
      refine R_lstore_n (p := 38) rfl rfl rfl ?_
      refine R_ldc2_w (p := 41) rfl rfl ?_
      refine R_ldc2_w (p := 44) rfl rfl ?_
      refine R_lload_n (p := 45) rfl jg2_self rfl ?_
      refine R_cS2v (p := 48) rfl (tfJ9_min_f86c9 (Nat.le_trans (by decide) hd) ) rfl rfl ?_
      refine R_cS2v (p := 51) rfl (tfJ9_max_f86c9 (Nat.le_trans (by decide) hd) ) rfl rfl ?_
      refine R_lstore_n (p := 52) rfl rfl rfl ?_
      refine R_lload_n (p := 53) rfl jg2_self rfl ?_
      refine R_aload_n (p := 54) rfl (jg2_ne (jg2_ne l0 rfl) rfl) rfl ?_
      refine R_getR (p := 57) (q := (cw k 2)) hK rfl (s_w1 hk) rfl rfl ?_
      refine R_getR (p := 60) (q := (cw k 3)) hK rfl (s_w2 hk) rfl rfl ?_
      refine R_iload_n (p := 61) rfl (jg2_ne (jg2_ne l1 rfl) rfl) rfl ?_
      obtain ⟨b6, h⟩ := gd h
      refine R_iald (p := 62) hK rfl (s_w3 hk) b6 rfl ?_
      refine R_cS1v (p := 65) rfl (tfX1_lets (Nat.le_trans (by decide) hd) ) rfl rfl ?_
      refine R_i2l (p := 66) rfl rfl ?_
      refine R_lmul (p := 67) rfl rfl ?_
      refine R_aload_n (p := 68) rfl (jg2_ne (jg2_ne l0 rfl) rfl) rfl ?_
      refine R_getR (p := 71) (q := (cw k 2)) hK rfl (s_w1 hk) rfl rfl ?_
      refine R_getR (p := 74) (q := (cw k 3)) hK rfl (s_w2 hk) rfl rfl ?_
      refine R_iload_n (p := 75) rfl (jg2_ne (jg2_ne l2 rfl) rfl) rfl ?_
      obtain ⟨b8, h⟩ := gd h
      refine R_iald (p := 76) hK rfl (s_w3 hk) b8 rfl ?_
      refine R_cS1v (p := 79) rfl (tfX1_lets (Nat.le_trans (by decide) hd) ) rfl rfl ?_
      refine R_i2l (p := 80) rfl rfl ?_
      refine R_lmul (p := 81) rfl rfl ?_
      refine R_ldc2_w (p := 84) rfl rfl ?_
      refine R_ldiv (p := 85) rfl (by decide) rfl ?_
      refine R_l2i (p := 86) rfl rfl ?_
      obtain rfl := Option.some.inj h
      exact R_ireturn rfl rfl hq
theorem tfX7_passing {xs : List Int32} {d : Nat} {K : Mem → List jE} (hK : Ctx shC K) (hd : 4 ≤ d) {k : Nat} (hk : k < 3) {x1 : Int32} {x2 : Int32} {m : Mem} {t : (Int32 × Mem)} (h : fX7_passing k x1 x2 m = some t) : CallD (jcs xs) d 89 [.ref (cw k 1), .int x1, .int x2] (K m) (some (.int t.1), K t.2) := by
  obtain ⟨d, rfl⟩ : ∃ z, d = z + 1 := ⟨d - 1, by omega⟩
  refine CallD_of jmt_X7_passing rfl ⟨rfl, Nat.le_of_ble_eq_true rfl⟩ ?_
  exact ufX7_passing hK (Nat.le_of_succ_le_succ hd) hk rfl rfl rfl h rfl
noncomputable def fX8_passes (x1 : Int32) (x2 : Int32) (m : Mem) : Option (Int32 × Mem) := (if (fX8_areBubbles x1 x2 m) = 0 then (fX8_no (1 : Int32) m).bind fun q2 => some (q2.1, q2.2) else (fX0_isWall 0 x1 x2 m).bind fun q3 => (if q3 = 0 then (fX8_no (3 : Int32) m).bind fun q4 => some (q4.1, q4.2) else (if x2 ≤ x1 then (fX7_passing 0 x2 x1 m).bind fun q5 => some ((-q5.1), q5.2) else (fX7_passing 0 x1 x2 m).bind fun q6 => some (q6.1, q6.2))))
theorem ufX8_passes {xs : List Int32} {d : Nat} {r : jR} {K : Mem → List jE} (hK : Ctx shC K) (hd : 4 ≤ d) {x1 : Int32} {x2 : Int32} {m : Mem} {L : List (Nat × Value)} (l0 : jget L 0 = some (.ref 0)) (l1 : jget L 1 = some (.int x1)) (l2 : jget L 2 = some (.int x2)) {t : (Int32 × Mem)} (h : fX8_passes x1 x2 m = some t) (hq : (qIM r K) t) : RunD (jcs xs) d 3 (some .int) jt_X8_passes (0, L, [], (K m)) r := by
  unfold fX8_passes at h
  refine R_aload_n (p := 1) rfl l0 rfl ?_
  refine R_iload_n (p := 2) rfl l1 rfl ?_
  refine R_iload_n (p := 3) rfl l2 rfl ?_
  refine R_cV3v (p := 6) hK rfl rfl (tfX8_areBubbles hK (Nat.le_trans (by decide) hd) ) rfl rfl ?_
  by_cases hc : (fX8_areBubbles x1 x2 m) = 0
  · replace h := ite_t h hc
    refine R_ifne_f (p := 9) rfl (fun z => z hc) rfl ?_
    refine R_aload_n (p := 10) rfl l0 rfl ?_
    refine R_iconst (p := 11) rfl ki_1 rfl ?_
    obtain ⟨q2, eq2, h⟩ := bind_some h
    refine R_cV2v (p := 14) hK rfl rfl (tfX8_no hK (Nat.le_trans (by decide) hd)  eq2) rfl rfl ?_
    obtain rfl := Option.some.inj h
    exact R_ireturn rfl rfl hq
  · replace h := ite_f h hc
    refine R_ifne_t rfl hc ?_
    refine R_aload_n (p := 16) rfl l0 rfl ?_
    refine R_getR (p := 19) (q := (cw 0 1)) hK rfl rfl rfl rfl ?_
    refine R_getR (p := 22) (q := (cw 0 2)) hK rfl (s_w1 (by decide)) rfl rfl ?_
    refine R_iload_n (p := 23) rfl l1 rfl ?_
    refine R_iload_n (p := 24) rfl l2 rfl ?_
    obtain ⟨q3, eq3, h⟩ := bind_some h
    refine R_cV3v (p := 27) hK rfl (s_w2 (by decide)) (tfX0_isWall hK (Nat.le_trans (by decide) hd) (by decide) eq3) rfl rfl ?_
    by_cases hc : q3 = 0
    · replace h := ite_t h hc
      refine R_ifne_f (p := 30) rfl (fun z => z hc) rfl ?_
      refine R_aload_n (p := 31) rfl l0 rfl ?_
      refine R_iconst (p := 32) rfl ki_3 rfl ?_
      obtain ⟨q4, eq4, h⟩ := bind_some h
      refine R_cV2v (p := 35) hK rfl rfl (tfX8_no hK (Nat.le_trans (by decide) hd)  eq4) rfl rfl ?_
      obtain rfl := Option.some.inj h
      exact R_ireturn rfl rfl hq
    · replace h := ite_f h hc
      refine R_ifne_t rfl hc ?_
      refine R_iload_n (p := 37) rfl l1 rfl ?_
      refine R_iload_n (p := 38) rfl l2 rfl ?_
      by_cases hc : x2 ≤ x1
      · replace h := ite_t h hc
        refine R_icge_t rfl hc ?_
        refine R_aload_n (p := 54) rfl l0 rfl ?_
        refine R_getR (p := 57) (q := (cw 0 1)) hK rfl rfl rfl rfl ?_
        refine R_iload_n (p := 58) rfl l2 rfl ?_
        refine R_iload_n (p := 59) rfl l1 rfl ?_
        obtain ⟨q5, eq5, h⟩ := bind_some h
        refine R_cV3v (p := 62) hK rfl (s_w1 (by decide)) (tfX7_passing hK (Nat.le_trans (by decide) hd) (by decide) eq5) rfl rfl ?_
        refine R_ineg (p := 63) rfl rfl ?_
        obtain rfl := Option.some.inj h
        exact R_ireturn rfl rfl hq
      · replace h := ite_f h hc
        refine R_icge_f (p := 41) rfl hc rfl ?_
        refine R_aload_n (p := 42) rfl l0 rfl ?_
        refine R_getR (p := 45) (q := (cw 0 1)) hK rfl rfl rfl rfl ?_
        refine R_iload_n (p := 46) rfl l1 rfl ?_
        refine R_iload_n (p := 47) rfl l2 rfl ?_
        obtain ⟨q6, eq6, h⟩ := bind_some h
        refine R_cV3v (p := 50) hK rfl (s_w1 (by decide)) (tfX7_passing hK (Nat.le_trans (by decide) hd) (by decide) eq6) rfl rfl ?_
        refine R_goto rfl ?_
        obtain rfl := Option.some.inj h
        exact R_ireturn rfl rfl hq
theorem tfX8_passes {xs : List Int32} {d : Nat} {K : Mem → List jE} (hK : Ctx shC K) (hd : 5 ≤ d) {x1 : Int32} {x2 : Int32} {m : Mem} {t : (Int32 × Mem)} (h : fX8_passes x1 x2 m = some t) : CallD (jcs xs) d 121 [.ref 0, .int x1, .int x2] (K m) (some (.int t.1), K t.2) := by
  obtain ⟨d, rfl⟩ : ∃ z, d = z + 1 := ⟨d - 1, by omega⟩
  refine CallD_of jmt_X8_passes rfl ⟨rfl, Nat.le_of_ble_eq_true rfl⟩ ?_
  exact ufX8_passes hK (Nat.le_of_succ_le_succ hd) rfl rfl rfl h rfl
noncomputable def bX9_passesBy_57 (x1 : Int32) (x2 : Int32) (y0 : Int64) (m : Mem) : Option (Int32 × Mem) := (fX9_letsOf x1 m).bind fun q6 => (fX9_letsOf x2 m).bind fun q7 => some ((((((fJ9_max_f86c9 (-9999 : Int64) (fJ9_min_f86c9 (9999 : Int64) (((m 138 4).toInt64) * y0))) * (q6.toInt64)) * (q7.toInt64)) / (144 : Int64)).toInt32), m)
noncomputable def fX9_passesBy (x1 : Int32) (x2 : Int32) (m : Mem) : Option (Int32 × Mem) := (fX9_hasText (0 : Int32) m).bind fun q1 => (if q1 = 0 then (fX9_sidesOf x2 m).bind fun q2 => (fX9_sidesOf x1 m).bind fun q3 => bX9_passesBy_57 x1 x2 ((q2 - q3).toInt64) m else (fX9_sidesOf x1 m).bind fun q8 => (fX9_sidesOf x2 m).bind fun q9 => (fX9_of x1 (2 : Int32) m).bind fun q10 => (fX9_of x2 (2 : Int32) m).bind fun q11 => (fX9_given (0 : Int32) q8 q9 q10 q11 (m 138 0) m).bind fun q12 => bX9_passesBy_57 x1 x2 (q12.1.toInt64) q12.2)
theorem tbX9_passesBy_57 {xs : List Int32} {d : Nat} {r : jR} {K : Mem → List jE} (hK : Ctx shR K) (hd : 3 ≤ d)  {x1 : Int32} {x2 : Int32} {y0 : Int64} {m : Mem} {L : List (Nat × Value)} (l0 : jget L 0 = some (.ref 137)) (l1 : jget L 1 = some (.int x1)) (l2 : jget L 2 = some (.int x2)) {t : (Int32 × Mem)} (h : bX9_passesBy_57 x1 x2 y0 m = some t) (hq : (qIM r K) t) : RunD (jcs xs) d 7 (some .int) jt_X9_passesBy (57, L, [.long y0], (K m)) r := by
  unfold bX9_passesBy_57 at h
  refine R_lstore_n (p := 58) rfl rfl rfl ?_
  refine R_ldc2_w (p := 61) rfl rfl ?_
  refine R_ldc2_w (p := 64) rfl rfl ?_
  refine R_aload_n (p := 65) rfl (jg2_ne l0 rfl) rfl ?_
  refine R_getR (p := 68) (q := 138) hK rfl rfl rfl rfl ?_
  refine R_iconst (p := 69) rfl ki_4 rfl ?_
  refine R_ialk (p := 70) hK rfl rfl (by decide) kn_4 rfl ?_
  refine R_i2l (p := 71) rfl rfl ?_
  refine R_lload_n (p := 72) rfl jg2_self rfl ?_
  refine R_lmul (p := 73) rfl rfl ?_
  refine R_cS2v (p := 76) rfl (tfJ9_min_f86c9 (Nat.le_trans (by decide) hd) ) rfl rfl ?_
  refine R_cS2v (p := 79) rfl (tfJ9_max_f86c9 (Nat.le_trans (by decide) hd) ) rfl rfl ?_
  refine R_lstore (p := 81) rfl rfl rfl ?_
  refine R_lload (p := 83) rfl jg2_self rfl ?_
  refine R_aload_n (p := 84) rfl (jg2_ne (jg2_ne l0 rfl) rfl) rfl ?_
  refine R_iload_n (p := 85) rfl (jg2_ne (jg2_ne l1 rfl) rfl) rfl ?_
  obtain ⟨q6, eq6, h⟩ := bind_some h
  refine R_cV2v (p := 88) hK rfl rfl (tfX9_letsOf hK (Nat.le_trans (by decide) hd)  eq6) rfl rfl ?_
  refine R_i2l (p := 89) rfl rfl ?_
  refine R_lmul (p := 90) rfl rfl ?_
  refine R_aload_n (p := 91) rfl (jg2_ne (jg2_ne l0 rfl) rfl) rfl ?_
  refine R_iload_n (p := 92) rfl (jg2_ne (jg2_ne l2 rfl) rfl) rfl ?_
  obtain ⟨q7, eq7, h⟩ := bind_some h
  refine R_cV2v (p := 95) hK rfl rfl (tfX9_letsOf hK (Nat.le_trans (by decide) hd)  eq7) rfl rfl ?_
  refine R_i2l (p := 96) rfl rfl ?_
  refine R_lmul (p := 97) rfl rfl ?_
  refine R_ldc2_w (p := 100) rfl rfl ?_
  refine R_ldiv (p := 101) rfl (by decide) rfl ?_
  refine R_l2i (p := 102) rfl rfl ?_
  obtain rfl := Option.some.inj h
  exact R_ireturn rfl rfl hq
theorem ufX9_passesBy {xs : List Int32} {d : Nat} {r : jR} {K : Mem → List jE} (hK : Ctx shR K) (hd : 3 ≤ d) {x1 : Int32} {x2 : Int32} {m : Mem} {L : List (Nat × Value)} (l0 : jget L 0 = some (.ref 137)) (l1 : jget L 1 = some (.int x1)) (l2 : jget L 2 = some (.int x2)) {t : (Int32 × Mem)} (h : fX9_passesBy x1 x2 m = some t) (hq : (qIM r K) t) : RunD (jcs xs) d 7 (some .int) jt_X9_passesBy (0, L, [], (K m)) r := by
  unfold fX9_passesBy at h
  refine R_aload_n (p := 1) rfl l0 rfl ?_
  refine R_iconst (p := 2) rfl ki_0 rfl ?_
  obtain ⟨q1, eq1, h⟩ := bind_some h
  refine R_cV2v (p := 5) hK rfl rfl (tfX9_hasText hK (Nat.le_trans (by decide) hd)  eq1) rfl rfl ?_
  by_cases hc : q1 = 0
  · replace h := ite_t h hc
    refine R_ifeq_t rfl hc ?_
    refine R_aload_n (p := 46) rfl l0 rfl ?_
    refine R_iload_n (p := 47) rfl l2 rfl ?_
    obtain ⟨q2, eq2, h⟩ := bind_some h
    refine R_cV2v (p := 50) hK rfl rfl (tfX9_sidesOf hK (Nat.le_trans (by decide) hd)  eq2) rfl rfl ?_
    refine R_aload_n (p := 51) rfl l0 rfl ?_
    refine R_iload_n (p := 52) rfl l1 rfl ?_
    obtain ⟨q3, eq3, h⟩ := bind_some h
    refine R_cV2v (p := 55) hK rfl rfl (tfX9_sidesOf hK (Nat.le_trans (by decide) hd)  eq3) rfl rfl ?_
    refine R_isub (p := 56) rfl rfl ?_
    refine R_i2l (p := 57) rfl rfl ?_
    exact tbX9_passesBy_57 hK hd l0 l1 l2 h hq
  · replace h := ite_f h hc
    refine R_ifeq_f (p := 8) rfl hc rfl ?_
    refine R_aload_n (p := 9) rfl l0 rfl ?_
    refine R_iconst (p := 10) rfl ki_0 rfl ?_
    refine R_aload_n (p := 11) rfl l0 rfl ?_
    refine R_iload_n (p := 12) rfl l1 rfl ?_
    obtain ⟨q8, eq8, h⟩ := bind_some h
    refine R_cV2v (p := 15) hK rfl rfl (tfX9_sidesOf hK (Nat.le_trans (by decide) hd)  eq8) rfl rfl ?_
    refine R_aload_n (p := 16) rfl l0 rfl ?_
    refine R_iload_n (p := 17) rfl l2 rfl ?_
    obtain ⟨q9, eq9, h⟩ := bind_some h
    refine R_cV2v (p := 20) hK rfl rfl (tfX9_sidesOf hK (Nat.le_trans (by decide) hd)  eq9) rfl rfl ?_
    refine R_aload_n (p := 21) rfl l0 rfl ?_
    refine R_iload_n (p := 22) rfl l1 rfl ?_
    refine R_iconst (p := 23) rfl ki_2 rfl ?_
    obtain ⟨q10, eq10, h⟩ := bind_some h
    refine R_cV3v (p := 26) hK rfl rfl (tfX9_of hK (Nat.le_trans (by decide) hd)  eq10) rfl rfl ?_
    refine R_aload_n (p := 27) rfl l0 rfl ?_
    refine R_iload_n (p := 28) rfl l2 rfl ?_
    refine R_iconst (p := 29) rfl ki_2 rfl ?_
    obtain ⟨q11, eq11, h⟩ := bind_some h
    refine R_cV3v (p := 32) hK rfl rfl (tfX9_of hK (Nat.le_trans (by decide) hd)  eq11) rfl rfl ?_
    refine R_aload_n (p := 33) rfl l0 rfl ?_
    refine R_getR (p := 36) (q := 138) hK rfl rfl rfl rfl ?_
    refine R_iconst (p := 37) rfl ki_0 rfl ?_
    refine R_ialk (p := 38) hK rfl rfl (by decide) kn_0 rfl ?_
    obtain ⟨q12, eq12, h⟩ := bind_some h
    refine R_cV7v (p := 41) hK rfl rfl (tfX9_given hK (Nat.le_trans (by decide) hd)  eq12) rfl rfl ?_
    refine R_i2l (p := 42) rfl rfl ?_
    refine R_goto rfl ?_
    exact tbX9_passesBy_57 hK hd l0 l1 l2 h hq
theorem tfX9_passesBy {xs : List Int32} {d : Nat} {K : Mem → List jE} (hK : Ctx shR K) (hd : 4 ≤ d) {x1 : Int32} {x2 : Int32} {m : Mem} {t : (Int32 × Mem)} (h : fX9_passesBy x1 x2 m = some t) : CallD (jcs xs) d 209 [.ref 137, .int x1, .int x2] (K m) (some (.int t.1), K t.2) := by
  obtain ⟨d, rfl⟩ : ∃ z, d = z + 1 := ⟨d - 1, by omega⟩
  refine CallD_of jmt_X9_passesBy rfl ⟨rfl, Nat.le_of_ble_eq_true rfl⟩ ?_
  exact ufX9_passesBy hK (Nat.le_of_succ_le_succ hd) rfl rfl rfl h rfl
noncomputable def fX9_passes (x1 : Int32) (x2 : Int32) (m : Mem) : Option (Int32 × Mem) := (fX9_areTwo x1 x2 m).bind fun q1 => (if q1 = 0 then (fX9_finding (-1000001 : Int32) m).bind fun q2 => some (q2.1, q2.2) else (fX9_isWall x1 x2 m).bind fun q3 => (if q3 = 0 then (fX9_finding (-1000003 : Int32) m).bind fun q4 => some (q4.1, q4.2) else (if x2 ≤ x1 then (fX9_passesBy x2 x1 m).bind fun q5 => some ((-q5.1), q5.2) else (fX9_passesBy x1 x2 m).bind fun q6 => some (q6.1, q6.2))))
theorem ufX9_passes {xs : List Int32} {d : Nat} {r : jR} {K : Mem → List jE} (hK : Ctx shR K) (hd : 4 ≤ d) {x1 : Int32} {x2 : Int32} {m : Mem} {L : List (Nat × Value)} (l0 : jget L 0 = some (.ref 137)) (l1 : jget L 1 = some (.int x1)) (l2 : jget L 2 = some (.int x2)) {t : (Int32 × Mem)} (h : fX9_passes x1 x2 m = some t) (hq : (qIM r K) t) : RunD (jcs xs) d 3 (some .int) jt_X9_passes (0, L, [], (K m)) r := by
  unfold fX9_passes at h
  refine R_aload_n (p := 1) rfl l0 rfl ?_
  refine R_iload_n (p := 2) rfl l1 rfl ?_
  refine R_iload_n (p := 3) rfl l2 rfl ?_
  obtain ⟨q1, eq1, h⟩ := bind_some h
  refine R_cV3v (p := 6) hK rfl rfl (tfX9_areTwo hK (Nat.le_trans (by decide) hd)  eq1) rfl rfl ?_
  by_cases hc : q1 = 0
  · replace h := ite_t h hc
    refine R_ifne_f (p := 9) rfl (fun z => z hc) rfl ?_
    refine R_aload_n (p := 10) rfl l0 rfl ?_
    refine R_ldc (p := 12) rfl kl_m1000001 rfl ?_
    obtain ⟨q2, eq2, h⟩ := bind_some h
    refine R_cV2v (p := 15) hK rfl rfl (tfX9_finding hK (Nat.le_trans (by decide) hd)  eq2) rfl rfl ?_
    obtain rfl := Option.some.inj h
    exact R_ireturn rfl rfl hq
  · replace h := ite_f h hc
    refine R_ifne_t rfl hc ?_
    refine R_aload_n (p := 17) rfl l0 rfl ?_
    refine R_iload_n (p := 18) rfl l1 rfl ?_
    refine R_iload_n (p := 19) rfl l2 rfl ?_
    obtain ⟨q3, eq3, h⟩ := bind_some h
    refine R_cV3v (p := 22) hK rfl rfl (tfX9_isWall hK (Nat.le_trans (by decide) hd)  eq3) rfl rfl ?_
    by_cases hc : q3 = 0
    · replace h := ite_t h hc
      refine R_ifne_f (p := 25) rfl (fun z => z hc) rfl ?_
      refine R_aload_n (p := 26) rfl l0 rfl ?_
      refine R_ldc (p := 28) rfl kl_m1000003 rfl ?_
      obtain ⟨q4, eq4, h⟩ := bind_some h
      refine R_cV2v (p := 31) hK rfl rfl (tfX9_finding hK (Nat.le_trans (by decide) hd)  eq4) rfl rfl ?_
      obtain rfl := Option.some.inj h
      exact R_ireturn rfl rfl hq
    · replace h := ite_f h hc
      refine R_ifne_t rfl hc ?_
      refine R_iload_n (p := 33) rfl l1 rfl ?_
      refine R_iload_n (p := 34) rfl l2 rfl ?_
      by_cases hc : x2 ≤ x1
      · replace h := ite_t h hc
        refine R_icge_t rfl hc ?_
        refine R_aload_n (p := 47) rfl l0 rfl ?_
        refine R_iload_n (p := 48) rfl l2 rfl ?_
        refine R_iload_n (p := 49) rfl l1 rfl ?_
        obtain ⟨q5, eq5, h⟩ := bind_some h
        refine R_cV3v (p := 52) hK rfl rfl (tfX9_passesBy hK (Nat.le_trans (by decide) hd)  eq5) rfl rfl ?_
        refine R_ineg (p := 53) rfl rfl ?_
        obtain rfl := Option.some.inj h
        exact R_ireturn rfl rfl hq
      · replace h := ite_f h hc
        refine R_icge_f (p := 37) rfl hc rfl ?_
        refine R_aload_n (p := 38) rfl l0 rfl ?_
        refine R_iload_n (p := 39) rfl l1 rfl ?_
        refine R_iload_n (p := 40) rfl l2 rfl ?_
        obtain ⟨q6, eq6, h⟩ := bind_some h
        refine R_cV3v (p := 43) hK rfl rfl (tfX9_passesBy hK (Nat.le_trans (by decide) hd)  eq6) rfl rfl ?_
        refine R_goto rfl ?_
        obtain rfl := Option.some.inj h
        exact R_ireturn rfl rfl hq
theorem tfX9_passes {xs : List Int32} {d : Nat} {K : Mem → List jE} (hK : Ctx shR K) (hd : 5 ≤ d) {x1 : Int32} {x2 : Int32} {m : Mem} {t : (Int32 × Mem)} (h : fX9_passes x1 x2 m = some t) : CallD (jcs xs) d 210 [.ref 137, .int x1, .int x2] (K m) (some (.int t.1), K t.2) := by
  obtain ⟨d, rfl⟩ : ∃ z, d = z + 1 := ⟨d - 1, by omega⟩
  refine CallD_of jmt_X9_passes rfl ⟨rfl, Nat.le_of_ble_eq_true rfl⟩ ?_
  exact ufX9_passes hK (Nat.le_of_succ_le_succ hd) rfl rfl rfl h rfl
noncomputable def fJ9_abs_0f7a4 (x0 : Int32) : Int32 := (if 0 ≤ x0 then x0 else (-x0))
theorem ufJ9_abs_0f7a4 {xs : List Int32} {d : Nat} {r : jR} {hh : List jE} (hd : 0 ≤ d) {x0 : Int32} {L : List (Nat × Value)} (l0 : jget L 0 = some (.int x0)) {t : Int32} (h : fJ9_abs_0f7a4 x0 = t) (hq : (qI r hh) t) : RunD (jcs xs) d 1 (some .int) jt_J9_abs_0f7a4 (0, L, [], hh) r := by
  unfold fJ9_abs_0f7a4 at h
  refine R_iload_n (p := 1) rfl l0 rfl ?_
  by_cases hc : 0 ≤ x0
  · replace h := ite_t h hc
    refine R_ifge_t rfl hc ?_
    refine R_iload_n (p := 10) rfl l0 rfl ?_
    subst h
    exact R_ireturn rfl rfl hq
  · replace h := ite_f h hc
    refine R_ifge_f (p := 4) rfl hc rfl ?_
    refine R_iload_n (p := 5) rfl l0 rfl ?_
    refine R_ineg (p := 6) rfl rfl ?_
    refine R_goto rfl ?_
    subst h
    exact R_ireturn rfl rfl hq
theorem tfJ9_abs_0f7a4 {xs : List Int32} {d : Nat} {hh : List jE} (hd : 1 ≤ d) {x0 : Int32} : CallD (jcs xs) d 258 [.int x0] hh (some (.int (fJ9_abs_0f7a4 x0)), hh) := by
  obtain ⟨d, rfl⟩ : ∃ z, d = z + 1 := ⟨d - 1, by omega⟩
  refine CallD_of jmt_J9_abs_0f7a4 rfl ⟨rfl, Nat.le_of_ble_eq_true rfl⟩ ?_
  exact ufJ9_abs_0f7a4 (Nat.le_of_succ_le_succ hd) rfl rfl rfl
noncomputable def fX7_give (k : Nat) (x1 : Int32) (x2 : Int32) (x3 : Int32) (m : Mem) : Option Mem := (if inb x2 16 then (if inb x1 16 then (if inb x1 16 then (if inb x1 16 then (if inb x2 16 then (if inb x2 16 then some (mput (mput m (cw k 4) x1.toNatClampNeg ((m (cw k 4) x1.toNatClampNeg) - (fJ9_min_7cf53 x3 (fJ9_min_7cf53 (m (cw k 4) x1.toNatClampNeg) ((99999 : Int32) - (m (cw k 4) x2.toNatClampNeg)))))) (cw k 4) x2.toNatClampNeg (((mput m (cw k 4) x1.toNatClampNeg ((m (cw k 4) x1.toNatClampNeg) - (fJ9_min_7cf53 x3 (fJ9_min_7cf53 (m (cw k 4) x1.toNatClampNeg) ((99999 : Int32) - (m (cw k 4) x2.toNatClampNeg)))))) (cw k 4) x2.toNatClampNeg) + (fJ9_min_7cf53 x3 (fJ9_min_7cf53 (m (cw k 4) x1.toNatClampNeg) ((99999 : Int32) - (m (cw k 4) x2.toNatClampNeg)))))) else none) else none) else none) else none) else none) else none)
theorem ufX7_give {xs : List Int32} {d : Nat} {r : jR} {K : Mem → List jE} (hK : Ctx shC K) (hd : 1 ≤ d) {k : Nat} (hk : k < 3) {x1 : Int32} {x2 : Int32} {x3 : Int32} {m : Mem} {L : List (Nat × Value)} (l0 : jget L 0 = some (.ref (cw k 1))) (l1 : jget L 1 = some (.int x1)) (l2 : jget L 2 = some (.int x2)) (l3 : jget L 3 = some (.int x3)) {t : Mem} (h : fX7_give k x1 x2 x3 m = some t) (hq : (qM r K) t) : RunD (jcs xs) d 6 (none) jt_X7_give (0, L, [], (K m)) r := by
  unfold fX7_give at h
  refine R_ldc (p := 2) rfl kl_99999 rfl ?_
  refine R_aload_n (p := 3) rfl l0 rfl ?_
  refine R_getR (p := 6) (q := (cw k 2)) hK rfl (s_w1 hk) rfl rfl ?_
  refine R_getR (p := 9) (q := (cw k 4)) hK rfl (s_w2 hk) rfl rfl ?_
  refine R_iload_n (p := 10) rfl l2 rfl ?_
  obtain ⟨b1, h⟩ := gd h
  refine R_iald (p := 11) hK rfl (s_w4 hk) b1 rfl ?_
  refine R_isub (p := 12) rfl rfl ?_
  refine R_istore (p := 14) rfl rfl rfl ?_
  refine R_iload_n (p := 15) rfl (jg_ne l3 rfl) rfl ?_
  refine R_aload_n (p := 16) rfl (jg_ne l0 rfl) rfl ?_
  refine R_getR (p := 19) (q := (cw k 2)) hK rfl (s_w1 hk) rfl rfl ?_
  refine R_getR (p := 22) (q := (cw k 4)) hK rfl (s_w2 hk) rfl rfl ?_
  refine R_iload_n (p := 23) rfl (jg_ne l1 rfl) rfl ?_
  obtain ⟨b2, h⟩ := gd h
  refine R_iald (p := 24) hK rfl (s_w4 hk) b2 rfl ?_
  refine R_iload (p := 26) rfl jg_self rfl ?_
  refine R_cS2v (p := 29) rfl (tfJ9_min_7cf53 (Nat.le_trans (by decide) hd) ) rfl rfl ?_
  refine R_cS2v (p := 32) rfl (tfJ9_min_7cf53 (Nat.le_trans (by decide) hd) ) rfl rfl ?_
  refine R_istore (p := 34) rfl rfl rfl ?_
  refine R_aload_n (p := 35) rfl (jg_ne (jg_ne l0 rfl) rfl) rfl ?_
  refine R_getR (p := 38) (q := (cw k 2)) hK rfl (s_w1 hk) rfl rfl ?_
  refine R_getR (p := 41) (q := (cw k 4)) hK rfl (s_w2 hk) rfl rfl ?_
  refine R_iload_n (p := 42) rfl (jg_ne (jg_ne l1 rfl) rfl) rfl ?_
  refine R_dup2ia (p := 43) rfl rfl ?_
  obtain ⟨b5, h⟩ := gd h
  refine R_iald (p := 44) hK rfl (s_w4 hk) b5 rfl ?_
  refine R_iload (p := 46) rfl jg_self rfl ?_
  refine R_isub (p := 47) rfl rfl ?_
  obtain ⟨b6, h⟩ := gd h
  refine R_iast (p := 48) hK rfl (s_w4 hk) b6 rfl ?_
  refine R_aload_n (p := 49) rfl (jg_ne (jg_ne l0 rfl) rfl) rfl ?_
  refine R_getR (p := 52) (q := (cw k 2)) hK rfl (s_w1 hk) rfl rfl ?_
  refine R_getR (p := 55) (q := (cw k 4)) hK rfl (s_w2 hk) rfl rfl ?_
  refine R_iload_n (p := 56) rfl (jg_ne (jg_ne l2 rfl) rfl) rfl ?_
  refine R_dup2ia (p := 57) rfl rfl ?_
  obtain ⟨b7, h⟩ := gd h
  refine R_iald (p := 58) hK rfl (s_w4 hk) b7 rfl ?_
  refine R_iload (p := 60) rfl jg_self rfl ?_
  refine R_iadd (p := 61) rfl rfl ?_
  obtain ⟨b8, h⟩ := gd h
  refine R_iast (p := 62) hK rfl (s_w4 hk) b8 rfl ?_
  obtain rfl := Option.some.inj h
  exact R_return rfl rfl hq
theorem tfX7_give {xs : List Int32} {d : Nat} {K : Mem → List jE} (hK : Ctx shC K) (hd : 2 ≤ d) {k : Nat} (hk : k < 3) {x1 : Int32} {x2 : Int32} {x3 : Int32} {m : Mem} {t : Mem} (h : fX7_give k x1 x2 x3 m = some t) : CallD (jcs xs) d 92 [.ref (cw k 1), .int x1, .int x2, .int x3] (K m) (none, K t) := by
  obtain ⟨d, rfl⟩ : ∃ z, d = z + 1 := ⟨d - 1, by omega⟩
  refine CallD_of jmt_X7_give rfl ⟨rfl, Nat.le_of_ble_eq_true rfl⟩ ?_
  exact ufX7_give hK (Nat.le_of_succ_le_succ hd) hk rfl rfl rfl rfl h rfl
noncomputable def bX7_passGas_56 (k : Nat) (x1 : Int32) (x2 : Int32) (x3 : Int32) (y1 : Int32) (y2 : Int32) (m : Mem) : Option ((Int32 × Mem) ⊕ ((Int32 × Mem) ⊕ Mem)) := (fX7_give k y1 y2 (fJ9_abs_0f7a4 x3) m).bind fun q4 => some (.inl ((x2 + (1 : Int32)), q4))
noncomputable def bX7_passGas_47 (k : Nat) (x1 : Int32) (x2 : Int32) (x3 : Int32) (y1 : Int32) (m : Mem) : Option ((Int32 × Mem) ⊕ ((Int32 × Mem) ⊕ Mem)) := (if 0 ≤ x3 then bX7_passGas_56 k x1 x2 x3 y1 x2 m else bX7_passGas_56 k x1 x2 x3 y1 x1 m)
noncomputable def lX7_passGas_12 (k : Nat) (x1 : Int32) (s : Int32 × Mem) : Option ((Int32 × Mem) ⊕ ((Int32 × Mem) ⊕ Mem)) := (if (16 : Int32) ≤ s.1 then some (.inr (.inl ((x1 + (1 : Int32)), s.2))) else (fX0_isWall k x1 s.1 s.2).bind fun q1 => (if q1 = 0 then some (.inl ((s.1 + (1 : Int32)), s.2)) else (fX7_passing k x1 s.1 s.2).bind fun q2 => (if 0 ≤ q2.1 then bX7_passGas_47 k x1 s.1 q2.1 x1 q2.2 else bX7_passGas_47 k x1 s.1 q2.1 s.1 q2.2)))
noncomputable def gX7_passGas_12 (xs : List Int32) (d : Nat) (r : jR) (K : Mem → List jE) (k : Nat) (x1 : Int32) (s : Int32 × Mem) : Prop := ∀ L, jget L 0 = some (.ref (cw k 1)) → jget L 1 = some (.int x1) → jget L 2 = some (.int s.1) → RunD (jcs xs) d 4 (none) jt_X7_passGas (12, L, [], (K s.2)) r
noncomputable def lX7_passGas_2 (k : Nat) (s : Int32 × Mem) : Option ((Int32 × Mem) ⊕ Mem) := (if (16 : Int32) ≤ s.1 then some (.inr s.2) else lp (lX7_passGas_12 k s.1) fu ((s.1 + (1 : Int32)), s.2))
noncomputable def gX7_passGas_2 (xs : List Int32) (d : Nat) (r : jR) (K : Mem → List jE) (k : Nat) (s : Int32 × Mem) : Prop := ∀ L, jget L 0 = some (.ref (cw k 1)) → jget L 1 = some (.int s.1) → RunD (jcs xs) d 4 (none) jt_X7_passGas (2, L, [], (K s.2)) r
noncomputable def fX7_passGas (k : Nat) (m : Mem) : Option Mem := lp (lX7_passGas_2 k) fu ((0 : Int32), m)
theorem tbX7_passGas_56 {xs : List Int32} {d : Nat} {r : jR} {K : Mem → List jE} (hK : Ctx shC K) (hd : 4 ≤ d) {k : Nat} (hk : k < 3)  {x1 : Int32} {x2 : Int32} {x3 : Int32} {y1 : Int32} {y2 : Int32} {m : Mem} {L : List (Nat × Value)} (l0 : jget L 0 = some (.ref (cw k 1))) (l1 : jget L 1 = some (.int x1)) (l2 : jget L 2 = some (.int x2)) (l3 : jget L 3 = some (.int x3)) {t : ((Int32 × Mem) ⊕ ((Int32 × Mem) ⊕ Mem))} (h : bX7_passGas_56 k x1 x2 x3 y1 y2 m = some t) (hq : (sQ (gX7_passGas_12 xs d r K k x1) (sQ (gX7_passGas_2 xs d r K k) (qM r K))) t) : RunD (jcs xs) d 4 (none) jt_X7_passGas (56, L, [.int y2, .int y1, .ref (cw k 1)], (K m)) r := by
  unfold bX7_passGas_56 at h
  refine R_iload_n (p := 57) rfl l3 rfl ?_
  refine R_cS1v (p := 60) rfl (tfJ9_abs_0f7a4 (Nat.le_trans (by decide) hd) ) rfl rfl ?_
  obtain ⟨q4, eq4, h⟩ := bind_some h
  refine R_cV4n (p := 63) hK rfl (s_w1 hk) (tfX7_give hK (Nat.le_trans (by decide) hd) hk eq4) rfl rfl ?_
  refine R_iinc (p := 66) rfl l2 rfl ki_1 rfl ?_
  refine R_goto rfl ?_
  obtain rfl := Option.some.inj h
  exact hq _ (jg_ne l0 rfl) (jg_ne l1 rfl) jg_self
theorem tbX7_passGas_47 {xs : List Int32} {d : Nat} {r : jR} {K : Mem → List jE} (hK : Ctx shC K) (hd : 4 ≤ d) {k : Nat} (hk : k < 3)  {x1 : Int32} {x2 : Int32} {x3 : Int32} {y1 : Int32} {m : Mem} {L : List (Nat × Value)} (l0 : jget L 0 = some (.ref (cw k 1))) (l1 : jget L 1 = some (.int x1)) (l2 : jget L 2 = some (.int x2)) (l3 : jget L 3 = some (.int x3)) {t : ((Int32 × Mem) ⊕ ((Int32 × Mem) ⊕ Mem))} (h : bX7_passGas_47 k x1 x2 x3 y1 m = some t) (hq : (sQ (gX7_passGas_12 xs d r K k x1) (sQ (gX7_passGas_2 xs d r K k) (qM r K))) t) : RunD (jcs xs) d 4 (none) jt_X7_passGas (47, L, [.int y1, .ref (cw k 1)], (K m)) r := by
  unfold bX7_passGas_47 at h
  refine R_iload_n (p := 48) rfl l3 rfl ?_
  by_cases hc : 0 ≤ x3
  · replace h := ite_t h hc
    refine R_ifge_t rfl hc ?_
    refine R_iload_n (p := 56) rfl l2 rfl ?_
    exact tbX7_passGas_56 hK hd hk l0 l1 l2 l3 h hq
  · replace h := ite_f h hc
    refine R_ifge_f (p := 51) rfl hc rfl ?_
    refine R_iload_n (p := 52) rfl l1 rfl ?_
    refine R_goto rfl ?_
    exact tbX7_passGas_56 hK hd hk l0 l1 l2 l3 h hq
theorem BX7_passGas_12 {xs : List Int32} {d : Nat} {r : jR} {K : Mem → List jE} (hK : Ctx shC K) (hd : 4 ≤ d) {k : Nat} (hk : k < 3)  {x1 : Int32} (s : Int32 × Mem) {t : (Int32 × Mem) ⊕ ((Int32 × Mem) ⊕ Mem)} (h : lX7_passGas_12 k x1 s = some t) (hq : sQ (gX7_passGas_12 xs d r K k x1) (sQ (gX7_passGas_2 xs d r K k) (qM r K)) t) : gX7_passGas_12 xs d r K k x1 s := by
  intro L l0 l1 l2
  unfold lX7_passGas_12 at h
  refine R_iload_n (p := 13) rfl l2 rfl ?_
  refine R_bipush (p := 15) rfl kb_16 rfl ?_
  by_cases hc : (16 : Int32) ≤ s.1
  · replace h := ite_t h hc
    refine R_icge_t rfl hc ?_
    refine R_iinc (p := 72) rfl l1 rfl ki_1 rfl ?_
    refine R_goto rfl ?_
    obtain rfl := Option.some.inj h
    exact hq _ (jg_ne l0 rfl) jg_self
  · replace h := ite_f h hc
    refine R_icge_f (p := 18) rfl hc rfl ?_
    refine R_aload_n (p := 19) rfl l0 rfl ?_
    refine R_getR (p := 22) (q := (cw k 2)) hK rfl (s_w1 hk) rfl rfl ?_
    refine R_iload_n (p := 23) rfl l1 rfl ?_
    refine R_iload_n (p := 24) rfl l2 rfl ?_
    obtain ⟨q1, eq1, h⟩ := bind_some h
    refine R_cV3v (p := 27) hK rfl (s_w2 hk) (tfX0_isWall hK (Nat.le_trans (by decide) hd) hk eq1) rfl rfl ?_
    by_cases hc : q1 = 0
    · replace h := ite_t h hc
      refine R_ifeq_t rfl hc ?_
      refine R_iinc (p := 66) rfl l2 rfl ki_1 rfl ?_
      refine R_goto rfl ?_
      obtain rfl := Option.some.inj h
      exact hq _ (jg_ne l0 rfl) (jg_ne l1 rfl) jg_self
    · replace h := ite_f h hc
      refine R_ifeq_f (p := 30) rfl hc rfl ?_
      refine R_aload_n (p := 31) rfl l0 rfl ?_
      refine R_iload_n (p := 32) rfl l1 rfl ?_
      refine R_iload_n (p := 33) rfl l2 rfl ?_
      obtain ⟨q2, eq2, h⟩ := bind_some h
      refine R_cV3v (p := 36) hK rfl (s_w1 hk) (tfX7_passing hK (Nat.le_trans (by decide) hd) hk eq2) rfl rfl ?_
      refine R_istore_n (p := 37) rfl rfl rfl ?_
      refine R_aload_n (p := 38) rfl (jg_ne l0 rfl) rfl ?_
      refine R_iload_n (p := 39) rfl jg_self rfl ?_
      by_cases hc : 0 ≤ q2.1
      · replace h := ite_t h hc
        refine R_ifge_t rfl hc ?_
        refine R_iload_n (p := 47) rfl (jg_ne l1 rfl) rfl ?_
        exact tbX7_passGas_47 hK hd hk (jg_ne l0 rfl) (jg_ne l1 rfl) (jg_ne l2 rfl) jg_self h hq
      · replace h := ite_f h hc
        refine R_ifge_f (p := 42) rfl hc rfl ?_
        refine R_iload_n (p := 43) rfl (jg_ne l2 rfl) rfl ?_
        refine R_goto rfl ?_
        exact tbX7_passGas_47 hK hd hk (jg_ne l0 rfl) (jg_ne l1 rfl) (jg_ne l2 rfl) jg_self h hq
theorem LX7_passGas_12 {xs : List Int32} {d : Nat} {r : jR} {K : Mem → List jE} (hK : Ctx shC K) (hd : 4 ≤ d) {k : Nat} (hk : k < 3)  {x1 : Int32} (n : Nat) (s : Int32 × Mem) {t : ((Int32 × Mem) ⊕ Mem)} (h : lp (lX7_passGas_12 k x1) n s = some t) (hq : (sQ (gX7_passGas_2 xs d r K k) (qM r K)) t) : gX7_passGas_12 xs d r K k x1 s := lp_ind (G := gX7_passGas_12 xs d r K k x1) (Qe := (sQ (gX7_passGas_2 xs d r K k) (qM r K))) (fun s t h hq => BX7_passGas_12 hK hd hk s h hq) n s t h hq
theorem BX7_passGas_2 {xs : List Int32} {d : Nat} {r : jR} {K : Mem → List jE} (hK : Ctx shC K) (hd : 4 ≤ d) {k : Nat} (hk : k < 3)  (s : Int32 × Mem) {t : (Int32 × Mem) ⊕ Mem} (h : lX7_passGas_2 k s = some t) (hq : sQ (gX7_passGas_2 xs d r K k) (qM r K) t) : gX7_passGas_2 xs d r K k s := by
  intro L l0 l1
  unfold lX7_passGas_2 at h
  refine R_iload_n (p := 3) rfl l1 rfl ?_
  refine R_bipush (p := 5) rfl kb_16 rfl ?_
  by_cases hc : (16 : Int32) ≤ s.1
  · replace h := ite_t h hc
    refine R_icge_t rfl hc ?_
    obtain rfl := Option.some.inj h
    exact R_return rfl rfl hq
  · replace h := ite_f h hc
    refine R_icge_f (p := 8) rfl hc rfl ?_
    refine R_iload_n (p := 9) rfl l1 rfl ?_
    refine R_iconst (p := 10) rfl ki_1 rfl ?_
    refine R_iadd (p := 11) rfl rfl ?_
    refine R_istore_n (p := 12) rfl rfl rfl ?_
    exact LX7_passGas_12 hK hd hk _ _ h hq _ (jg_ne l0 rfl) (jg_ne l1 rfl) jg_self
theorem LX7_passGas_2 {xs : List Int32} {d : Nat} {r : jR} {K : Mem → List jE} (hK : Ctx shC K) (hd : 4 ≤ d) {k : Nat} (hk : k < 3)  (n : Nat) (s : Int32 × Mem) {t : Mem} (h : lp (lX7_passGas_2 k) n s = some t) (hq : (qM r K) t) : gX7_passGas_2 xs d r K k s := lp_ind (G := gX7_passGas_2 xs d r K k) (Qe := (qM r K)) (fun s t h hq => BX7_passGas_2 hK hd hk s h hq) n s t h hq
theorem ufX7_passGas {xs : List Int32} {d : Nat} {r : jR} {K : Mem → List jE} (hK : Ctx shC K) (hd : 4 ≤ d) {k : Nat} (hk : k < 3) {m : Mem} {L : List (Nat × Value)} (l0 : jget L 0 = some (.ref (cw k 1))) {t : Mem} (h : fX7_passGas k m = some t) (hq : (qM r K) t) : RunD (jcs xs) d 4 (none) jt_X7_passGas (0, L, [], (K m)) r := by
  unfold fX7_passGas at h
  refine R_iconst (p := 1) rfl ki_0 rfl ?_
  refine R_istore_n (p := 2) rfl rfl rfl ?_
  exact LX7_passGas_2 hK hd hk _ _ h hq _ (jg_ne l0 rfl) jg_self
theorem tfX7_passGas {xs : List Int32} {d : Nat} {K : Mem → List jE} (hK : Ctx shC K) (hd : 5 ≤ d) {k : Nat} (hk : k < 3) {m : Mem} {t : Mem} (h : fX7_passGas k m = some t) : CallD (jcs xs) d 91 [.ref (cw k 1)] (K m) (none, K t) := by
  obtain ⟨d, rfl⟩ : ∃ z, d = z + 1 := ⟨d - 1, by omega⟩
  refine CallD_of jmt_X7_passGas rfl ⟨rfl, Nat.le_of_ble_eq_true rfl⟩ ?_
  exact ufX7_passGas hK (Nat.le_of_succ_le_succ hd) hk rfl h rfl
noncomputable def fX7_drain (k : Nat) (x1 : Int32) (m : Mem) : Mem := (mput m (cw k 1) 11 ((fJ9_min_f86c9 (1999999999 : Int64) (((m (cw k 1) 11).toInt64) + (x1.toInt64))).toInt32))
theorem ufX7_drain {xs : List Int32} {d : Nat} {r : jR} {K : Mem → List jE} (hK : Ctx shC K) (hd : 1 ≤ d) {k : Nat} (hk : k < 3) {x1 : Int32} {m : Mem} {L : List (Nat × Value)} (l0 : jget L 0 = some (.ref (cw k 1))) (l1 : jget L 1 = some (.int x1)) {t : Mem} (h : fX7_drain k x1 m = t) (hq : (qM r K) t) : RunD (jcs xs) d 2 (none) jt_X7_drain (0, L, [], (K m)) r := by
  unfold fX7_drain at h
  refine R_aload_n (p := 1) rfl l0 rfl ?_
  refine R_ldc2_w (p := 4) rfl rfl ?_
  refine R_aload_n (p := 5) rfl l0 rfl ?_
  refine R_getI (p := 8) hK rfl (s_w1 hk) rfl rfl ?_
  refine R_i2l (p := 9) rfl rfl ?_
  refine R_iload_n (p := 10) rfl l1 rfl ?_
  refine R_i2l (p := 11) rfl rfl ?_
  refine R_ladd (p := 12) rfl rfl ?_
  refine R_cS2v (p := 15) rfl (tfJ9_min_f86c9 (Nat.le_trans (by decide) hd) ) rfl rfl ?_
  refine R_l2i (p := 16) rfl rfl ?_
  refine R_putI (p := 19) hK rfl (s_w1 hk) rfl rfl rfl ?_
  subst h
  exact R_return rfl rfl hq
theorem tfX7_drain {xs : List Int32} {d : Nat} {K : Mem → List jE} (hK : Ctx shC K) (hd : 2 ≤ d) {k : Nat} (hk : k < 3) {x1 : Int32} {m : Mem} : CallD (jcs xs) d 96 [.ref (cw k 1), .int x1] (K m) (none, K (fX7_drain k x1 m)) := by
  obtain ⟨d, rfl⟩ : ∃ z, d = z + 1 := ⟨d - 1, by omega⟩
  refine CallD_of jmt_X7_drain rfl ⟨rfl, Nat.le_of_ble_eq_true rfl⟩ ?_
  exact ufX7_drain hK (Nat.le_of_succ_le_succ hd) hk rfl rfl rfl rfl
noncomputable def lX0_bitsBeside_11 (k : Nat) (x1 : Int32) (x3 : Int32) (m : Mem) (s : Int32 × Int32) : Option ((Int32 × Int32) ⊕ Int32) := (if x3 ≤ s.2 then some (.inr s.1) else (fX0_at k x1 s.2 m).bind fun q2 => (if (fX0_has k q2 m) = 0 then some (.inl (s.1, (s.2 + (1 : Int32)))) else some (.inl ((s.1 ||| (jShl (1 : Int32) q2)), (s.2 + (1 : Int32))))))
noncomputable def gX0_bitsBeside_11 (xs : List Int32) (d : Nat) (r : jR) (K : Mem → List jE) (k : Nat) (x1 : Int32) (x3 : Int32) (m : Mem) (s : Int32 × Int32) : Prop := ∀ L, jget L 0 = some (.ref (cw k 2)) → jget L 1 = some (.int x1) → jget L 3 = some (.int x3) → jget L 2 = some (.int s.1) → jget L 4 = some (.int s.2) → RunD (jcs xs) d 6 (some .int) jt_X0_bitsBeside (11, L, [], (K m)) r
noncomputable def fX0_bitsBeside (k : Nat) (x1 : Int32) (m : Mem) : Option Int32 := (fX0_sidesOf k x1 m).bind fun q1 => lp (lX0_bitsBeside_11 k x1 q1 m) fu ((0 : Int32), (0 : Int32))
theorem BX0_bitsBeside_11 {xs : List Int32} {d : Nat} {r : jR} {K : Mem → List jE} (hK : Ctx shC K) (hd : 2 ≤ d) {k : Nat} (hk : k < 3)  {x1 : Int32} {x3 : Int32} {m : Mem} (s : Int32 × Int32) {t : (Int32 × Int32) ⊕ Int32} (h : lX0_bitsBeside_11 k x1 x3 m s = some t) (hq : sQ (gX0_bitsBeside_11 xs d r K k x1 x3 m) (qI r (K m)) t) : gX0_bitsBeside_11 xs d r K k x1 x3 m s := by
  intro L l0 l1 l3 l2 l4
  unfold lX0_bitsBeside_11 at h
  refine R_iload (p := 13) rfl l4 rfl ?_
  refine R_iload_n (p := 14) rfl l3 rfl ?_
  by_cases hc : x3 ≤ s.2
  · replace h := ite_t h hc
    refine R_icge_t rfl hc ?_
    refine R_iload_n (p := 49) rfl l2 rfl ?_
    obtain rfl := Option.some.inj h
    exact R_ireturn rfl rfl hq
  · replace h := ite_f h hc
    refine R_icge_f (p := 17) rfl hc rfl ?_
    refine R_aload_n (p := 18) rfl l0 rfl ?_
    refine R_iload_n (p := 19) rfl l1 rfl ?_
    refine R_iload (p := 21) rfl l4 rfl ?_
    obtain ⟨q2, eq2, h⟩ := bind_some h
    refine R_cV3v (p := 24) hK rfl (s_w2 hk) (tfX0_at hK (Nat.le_trans (by decide) hd) hk eq2) rfl rfl ?_
    refine R_istore (p := 26) rfl rfl rfl ?_
    refine R_aload_n (p := 27) rfl (jg_ne l0 rfl) rfl ?_
    refine R_iload (p := 29) rfl jg_self rfl ?_
    refine R_cV2v (p := 32) hK rfl (s_w2 hk) (tfX0_has hK (Nat.le_trans (by decide) hd) hk) rfl rfl ?_
    by_cases hc : (fX0_has k q2 m) = 0
    · replace h := ite_t h hc
      refine R_ifeq_t rfl hc ?_
      refine R_iinc (p := 45) rfl (jg_ne l4 rfl) rfl ki_1 rfl ?_
      refine R_goto rfl ?_
      obtain rfl := Option.some.inj h
      exact hq _ (jg_ne (jg_ne l0 rfl) rfl) (jg_ne (jg_ne l1 rfl) rfl) (jg_ne (jg_ne l3 rfl) rfl) (jg_ne (jg_ne l2 rfl) rfl) jg_self
    · replace h := ite_f h hc
      refine R_ifeq_f (p := 35) rfl hc rfl ?_
      refine R_iload_n (p := 36) rfl (jg_ne l2 rfl) rfl ?_
      refine R_iconst (p := 37) rfl ki_1 rfl ?_
      refine R_iload (p := 39) rfl jg_self rfl ?_
      refine R_ishl (p := 40) rfl rfl ?_
      refine R_ior (p := 41) rfl rfl ?_
      refine R_istore_n (p := 42) rfl rfl rfl ?_
      refine R_iinc (p := 45) rfl (jg_ne (jg_ne l4 rfl) rfl) rfl ki_1 rfl ?_
      refine R_goto rfl ?_
      obtain rfl := Option.some.inj h
      exact hq _ (jg_ne (jg_ne (jg_ne l0 rfl) rfl) rfl) (jg_ne (jg_ne (jg_ne l1 rfl) rfl) rfl) (jg_ne (jg_ne (jg_ne l3 rfl) rfl) rfl) (jg_ne jg_self rfl) jg_self
theorem LX0_bitsBeside_11 {xs : List Int32} {d : Nat} {r : jR} {K : Mem → List jE} (hK : Ctx shC K) (hd : 2 ≤ d) {k : Nat} (hk : k < 3)  {x1 : Int32} {x3 : Int32} {m : Mem} (n : Nat) (s : Int32 × Int32) {t : Int32} (h : lp (lX0_bitsBeside_11 k x1 x3 m) n s = some t) (hq : (qI r (K m)) t) : gX0_bitsBeside_11 xs d r K k x1 x3 m s := lp_ind (G := gX0_bitsBeside_11 xs d r K k x1 x3 m) (Qe := (qI r (K m))) (fun s t h hq => BX0_bitsBeside_11 hK hd hk s h hq) n s t h hq
theorem ufX0_bitsBeside {xs : List Int32} {d : Nat} {r : jR} {K : Mem → List jE} (hK : Ctx shC K) (hd : 2 ≤ d) {k : Nat} (hk : k < 3) {x1 : Int32} {m : Mem} {L : List (Nat × Value)} (l0 : jget L 0 = some (.ref (cw k 2))) (l1 : jget L 1 = some (.int x1)) {t : Int32} (h : fX0_bitsBeside k x1 m = some t) (hq : (qI r (K m)) t) : RunD (jcs xs) d 6 (some .int) jt_X0_bitsBeside (0, L, [], (K m)) r := by
  unfold fX0_bitsBeside at h
  refine R_iconst (p := 1) rfl ki_0 rfl ?_
  refine R_istore_n (p := 2) rfl rfl rfl ?_
  refine R_aload_n (p := 3) rfl (jg_ne l0 rfl) rfl ?_
  refine R_iload_n (p := 4) rfl (jg_ne l1 rfl) rfl ?_
  obtain ⟨q1, eq1, h⟩ := bind_some h
  refine R_cV2v (p := 7) hK rfl (s_w2 hk) (tfX0_sidesOf hK (Nat.le_trans (by decide) hd) hk eq1) rfl rfl ?_
  refine R_istore_n (p := 8) rfl rfl rfl ?_
  refine R_iconst (p := 9) rfl ki_0 rfl ?_
  refine R_istore (p := 11) rfl rfl rfl ?_
  exact LX0_bitsBeside_11 hK hd hk _ _ h hq _ (jg_ne (jg_ne (jg_ne l0 rfl) rfl) rfl) (jg_ne (jg_ne (jg_ne l1 rfl) rfl) rfl) (jg_ne jg_self rfl) (jg_ne (jg_ne jg_self rfl) rfl) jg_self
theorem tfX0_bitsBeside {xs : List Int32} {d : Nat} {K : Mem → List jE} (hK : Ctx shC K) (hd : 3 ≤ d) {k : Nat} (hk : k < 3) {x1 : Int32} {m : Mem} {t : Int32} (h : fX0_bitsBeside k x1 m = some t) : CallD (jcs xs) d 12 [.ref (cw k 2), .int x1] (K m) (some (.int t), (K m)) := by
  obtain ⟨d, rfl⟩ : ∃ z, d = z + 1 := ⟨d - 1, by omega⟩
  refine CallD_of jmt_X0_bitsBeside rfl ⟨rfl, Nat.le_of_ble_eq_true rfl⟩ ?_
  exact ufX0_bitsBeside hK (Nat.le_of_succ_le_succ hd) hk rfl rfl h rfl
noncomputable def lX7_bitsBelow_11 (k : Nat) (x1 : Int32) (m : Mem) (s : Int32 × Int32) : Option ((Int32 × Int32) ⊕ Int32) := (if (16 : Int32) ≤ s.2 then some (.inr s.1) else (if inb s.2 16 then (if inb x1 16 then (if (m (cw k 6) x1.toNatClampNeg) < (m (cw k 6) s.2.toNatClampNeg) then some (.inl (s.1, (s.2 + (1 : Int32)))) else some (.inl ((s.1 &&& ((jShl (1 : Int32) s.2) ^^^ (-1 : Int32))), (s.2 + (1 : Int32))))) else none) else none))
noncomputable def gX7_bitsBelow_11 (xs : List Int32) (d : Nat) (r : jR) (K : Mem → List jE) (k : Nat) (x1 : Int32) (m : Mem) (s : Int32 × Int32) : Prop := ∀ L, jget L 0 = some (.ref (cw k 1)) → jget L 1 = some (.int x1) → jget L 2 = some (.int s.1) → jget L 3 = some (.int s.2) → RunD (jcs xs) d 4 (some .int) jt_X7_bitsBelow (11, L, [], (K m)) r
noncomputable def fX7_bitsBelow (k : Nat) (x1 : Int32) (m : Mem) : Option Int32 := (fX0_bitsBeside k x1 m).bind fun q1 => lp (lX7_bitsBelow_11 k x1 m) fu (q1, (0 : Int32))
theorem BX7_bitsBelow_11 {xs : List Int32} {d : Nat} {r : jR} {K : Mem → List jE} (hK : Ctx shC K) (hd : 3 ≤ d) {k : Nat} (hk : k < 3)  {x1 : Int32} {m : Mem} (s : Int32 × Int32) {t : (Int32 × Int32) ⊕ Int32} (h : lX7_bitsBelow_11 k x1 m s = some t) (hq : sQ (gX7_bitsBelow_11 xs d r K k x1 m) (qI r (K m)) t) : gX7_bitsBelow_11 xs d r K k x1 m s := by
  intro L l0 l1 l2 l3
  unfold lX7_bitsBelow_11 at h
  refine R_iload_n (p := 12) rfl l3 rfl ?_
  refine R_bipush (p := 14) rfl kb_16 rfl ?_
  by_cases hc : (16 : Int32) ≤ s.2
  · replace h := ite_t h hc
    refine R_icge_t rfl hc ?_
    refine R_iload_n (p := 53) rfl l2 rfl ?_
    obtain rfl := Option.some.inj h
    exact R_ireturn rfl rfl hq
  · replace h := ite_f h hc
    refine R_icge_f (p := 17) rfl hc rfl ?_
    refine R_aload_n (p := 18) rfl l0 rfl ?_
    refine R_getR (p := 21) (q := (cw k 2)) hK rfl (s_w1 hk) rfl rfl ?_
    refine R_getR (p := 24) (q := (cw k 6)) hK rfl (s_w2 hk) rfl rfl ?_
    refine R_iload_n (p := 25) rfl l3 rfl ?_
    obtain ⟨b2, h⟩ := gd h
    refine R_iald (p := 26) hK rfl (s_w6 hk) b2 rfl ?_
    refine R_aload_n (p := 27) rfl l0 rfl ?_
    refine R_getR (p := 30) (q := (cw k 2)) hK rfl (s_w1 hk) rfl rfl ?_
    refine R_getR (p := 33) (q := (cw k 6)) hK rfl (s_w2 hk) rfl rfl ?_
    refine R_iload_n (p := 34) rfl l1 rfl ?_
    obtain ⟨b3, h⟩ := gd h
    refine R_iald (p := 35) hK rfl (s_w6 hk) b3 rfl ?_
    by_cases hc : (m (cw k 6) x1.toNatClampNeg) < (m (cw k 6) s.2.toNatClampNeg)
    · replace h := ite_t h hc
      refine R_icgt_t rfl hc ?_
      refine R_iinc (p := 49) rfl l3 rfl ki_1 rfl ?_
      refine R_goto rfl ?_
      obtain rfl := Option.some.inj h
      exact hq _ (jg_ne l0 rfl) (jg_ne l1 rfl) (jg_ne l2 rfl) jg_self
    · replace h := ite_f h hc
      refine R_icgt_f (p := 38) rfl hc rfl ?_
      refine R_iload_n (p := 39) rfl l2 rfl ?_
      refine R_iconst (p := 40) rfl ki_1 rfl ?_
      refine R_iload_n (p := 41) rfl l3 rfl ?_
      refine R_ishl (p := 42) rfl rfl ?_
      refine R_iconst (p := 43) rfl ki_m1 rfl ?_
      refine R_ixor (p := 44) rfl rfl ?_
      refine R_iand (p := 45) rfl rfl ?_
      refine R_istore_n (p := 46) rfl rfl rfl ?_
      refine R_iinc (p := 49) rfl (jg_ne l3 rfl) rfl ki_1 rfl ?_
      refine R_goto rfl ?_
      obtain rfl := Option.some.inj h
      exact hq _ (jg_ne (jg_ne l0 rfl) rfl) (jg_ne (jg_ne l1 rfl) rfl) (jg_ne jg_self rfl) jg_self
theorem LX7_bitsBelow_11 {xs : List Int32} {d : Nat} {r : jR} {K : Mem → List jE} (hK : Ctx shC K) (hd : 3 ≤ d) {k : Nat} (hk : k < 3)  {x1 : Int32} {m : Mem} (n : Nat) (s : Int32 × Int32) {t : Int32} (h : lp (lX7_bitsBelow_11 k x1 m) n s = some t) (hq : (qI r (K m)) t) : gX7_bitsBelow_11 xs d r K k x1 m s := lp_ind (G := gX7_bitsBelow_11 xs d r K k x1 m) (Qe := (qI r (K m))) (fun s t h hq => BX7_bitsBelow_11 hK hd hk s h hq) n s t h hq
theorem ufX7_bitsBelow {xs : List Int32} {d : Nat} {r : jR} {K : Mem → List jE} (hK : Ctx shC K) (hd : 3 ≤ d) {k : Nat} (hk : k < 3) {x1 : Int32} {m : Mem} {L : List (Nat × Value)} (l0 : jget L 0 = some (.ref (cw k 1))) (l1 : jget L 1 = some (.int x1)) {t : Int32} (h : fX7_bitsBelow k x1 m = some t) (hq : (qI r (K m)) t) : RunD (jcs xs) d 4 (some .int) jt_X7_bitsBelow (0, L, [], (K m)) r := by
  unfold fX7_bitsBelow at h
  refine R_aload_n (p := 1) rfl l0 rfl ?_
  refine R_getR (p := 4) (q := (cw k 2)) hK rfl (s_w1 hk) rfl rfl ?_
  refine R_iload_n (p := 5) rfl l1 rfl ?_
  obtain ⟨q1, eq1, h⟩ := bind_some h
  refine R_cV2v (p := 8) hK rfl (s_w2 hk) (tfX0_bitsBeside hK (Nat.le_trans (by decide) hd) hk eq1) rfl rfl ?_
  refine R_istore_n (p := 9) rfl rfl rfl ?_
  refine R_iconst (p := 10) rfl ki_0 rfl ?_
  refine R_istore_n (p := 11) rfl rfl rfl ?_
  exact LX7_bitsBelow_11 hK hd hk _ _ h hq _ (jg_ne (jg_ne l0 rfl) rfl) (jg_ne (jg_ne l1 rfl) rfl) (jg_ne jg_self rfl) jg_self
theorem tfX7_bitsBelow {xs : List Int32} {d : Nat} {K : Mem → List jE} (hK : Ctx shC K) (hd : 4 ≤ d) {k : Nat} (hk : k < 3) {x1 : Int32} {m : Mem} {t : Int32} (h : fX7_bitsBelow k x1 m = some t) : CallD (jcs xs) d 95 [.ref (cw k 1), .int x1] (K m) (some (.int t), (K m)) := by
  obtain ⟨d, rfl⟩ : ∃ z, d = z + 1 := ⟨d - 1, by omega⟩
  refine CallD_of jmt_X7_bitsBelow rfl ⟨rfl, Nat.le_of_ble_eq_true rfl⟩ ?_
  exact ufX7_bitsBelow hK (Nat.le_of_succ_le_succ hd) hk rfl rfl h rfl
noncomputable def lX7_giveWater_59 (k : Nat) (x1 : Int32) (x3 : Int32) (x4 : Int32) (x5 : Int32) (s : Int32 × Mem) : Option ((Int32 × Mem) ⊕ Mem) := (if (16 : Int32) ≤ s.1 then (if inb x1 16 then (if inb x1 16 then some (.inr (mput s.2 (cw k 39) x1.toNatClampNeg ((s.2 (cw k 39) x1.toNatClampNeg) - (x5 * x4)))) else none) else none) else (if ((jUshr x3 s.1) &&& (1 : Int32)) = (1 : Int32) then (if inb s.1 16 then (if inb s.1 16 then some (.inl ((s.1 + (1 : Int32)), (mput s.2 (cw k 39) s.1.toNatClampNeg ((s.2 (cw k 39) s.1.toNatClampNeg) + x5)))) else none) else none) else some (.inl ((s.1 + (1 : Int32)), s.2))))
noncomputable def gX7_giveWater_59 (xs : List Int32) (d : Nat) (r : jR) (K : Mem → List jE) (k : Nat) (x1 : Int32) (x3 : Int32) (x4 : Int32) (x5 : Int32) (s : Int32 × Mem) : Prop := ∀ L, jget L 0 = some (.ref (cw k 1)) → jget L 1 = some (.int x1) → jget L 3 = some (.int x3) → jget L 4 = some (.int x4) → jget L 5 = some (.int x5) → jget L 6 = some (.int s.1) → RunD (jcs xs) d 7 (none) jt_X7_giveWater (59, L, [], (K s.2)) r
noncomputable def bX7_giveWater_31 (k : Nat) (x1 : Int32) (y0 : Int32) (y1 : Int32) (m : Mem) : Option Mem := (if ¬ y1 = 0 then (fX7_bitsBelow k x1 m).bind fun q5 => (if (fJ6_bitCount_0f7a4 q5) ≤ 0 then (fX0_glasses k x1 m).bind fun q7 => (if q7 ≤ 0 then some m else (if inb x1 16 then (if inb x1 16 then some (fX7_drain k (y0 / y1) (mput m (cw k 39) x1.toNatClampNeg ((m (cw k 39) x1.toNatClampNeg) - (y0 / y1)))) else none) else none)) else (if ¬ (fJ6_bitCount_0f7a4 q5) = 0 then lp (lX7_giveWater_59 k x1 q5 (fJ6_bitCount_0f7a4 q5) ((y0 / y1) / (fJ6_bitCount_0f7a4 q5))) fu ((0 : Int32), m) else none)) else none)
noncomputable def fX7_giveWater (k : Nat) (x1 : Int32) (m : Mem) : Option Mem := (if inb x1 16 then (if inb x1 16 then (fX1_isUnder (m (cw k 3) x1.toNatClampNeg) (3 : Int32) m).bind fun q3 => (if q3 = 0 then bX7_giveWater_31 k x1 (m (cw k 5) x1.toNatClampNeg) (4 : Int32) m else bX7_giveWater_31 k x1 (m (cw k 5) x1.toNatClampNeg) (8 : Int32) m) else none) else none)
theorem BX7_giveWater_59 {xs : List Int32} {d : Nat} {r : jR} {K : Mem → List jE} (hK : Ctx shC K) (hd : 4 ≤ d) {k : Nat} (hk : k < 3)  {x1 : Int32} {x3 : Int32} {x4 : Int32} {x5 : Int32} (s : Int32 × Mem) {t : (Int32 × Mem) ⊕ Mem} (h : lX7_giveWater_59 k x1 x3 x4 x5 s = some t) (hq : sQ (gX7_giveWater_59 xs d r K k x1 x3 x4 x5) (qM r K) t) : gX7_giveWater_59 xs d r K k x1 x3 x4 x5 s := by
  intro L l0 l1 l3 l4 l5 l6
  unfold lX7_giveWater_59 at h
  refine R_iload (p := 61) rfl l6 rfl ?_
  refine R_bipush (p := 63) rfl kb_16 rfl ?_
  by_cases hc : (16 : Int32) ≤ s.1
  · replace h := ite_t h hc
    refine R_icge_t rfl hc ?_
    refine R_aload_n (p := 95) rfl l0 rfl ?_
    refine R_getR (p := 98) (q := (cw k 39)) hK rfl (s_w1 hk) rfl rfl ?_
    refine R_iload_n (p := 99) rfl l1 rfl ?_
    refine R_dup2ia (p := 100) rfl rfl ?_
    obtain ⟨b12, h⟩ := gd h
    refine R_iald (p := 101) hK rfl (s_w39 hk) b12 rfl ?_
    refine R_iload (p := 103) rfl l5 rfl ?_
    refine R_iload (p := 105) rfl l4 rfl ?_
    refine R_imul (p := 106) rfl rfl ?_
    refine R_isub (p := 107) rfl rfl ?_
    obtain ⟨b13, h⟩ := gd h
    refine R_iast (p := 108) hK rfl (s_w39 hk) b13 rfl ?_
    refine R_goto rfl ?_
    obtain rfl := Option.some.inj h
    exact R_return rfl rfl hq
  · replace h := ite_f h hc
    refine R_icge_f (p := 66) rfl hc rfl ?_
    refine R_iload_n (p := 67) rfl l3 rfl ?_
    refine R_iload (p := 69) rfl l6 rfl ?_
    refine R_iushr (p := 70) rfl rfl ?_
    refine R_iconst (p := 71) rfl ki_1 rfl ?_
    refine R_iand (p := 72) rfl rfl ?_
    refine R_iconst (p := 73) rfl ki_1 rfl ?_
    by_cases hc : ((jUshr x3 s.1) &&& (1 : Int32)) = (1 : Int32)
    · replace h := ite_t h hc
      refine R_icne_f (p := 76) rfl (fun z => z hc) rfl ?_
      refine R_aload_n (p := 77) rfl l0 rfl ?_
      refine R_getR (p := 80) (q := (cw k 39)) hK rfl (s_w1 hk) rfl rfl ?_
      refine R_iload (p := 82) rfl l6 rfl ?_
      refine R_dup2ia (p := 83) rfl rfl ?_
      obtain ⟨b14, h⟩ := gd h
      refine R_iald (p := 84) hK rfl (s_w39 hk) b14 rfl ?_
      refine R_iload (p := 86) rfl l5 rfl ?_
      refine R_iadd (p := 87) rfl rfl ?_
      obtain ⟨b15, h⟩ := gd h
      refine R_iast (p := 88) hK rfl (s_w39 hk) b15 rfl ?_
      refine R_iinc (p := 91) rfl l6 rfl ki_1 rfl ?_
      refine R_goto rfl ?_
      obtain rfl := Option.some.inj h
      exact hq _ (jg_ne l0 rfl) (jg_ne l1 rfl) (jg_ne l3 rfl) (jg_ne l4 rfl) (jg_ne l5 rfl) jg_self
    · replace h := ite_f h hc
      refine R_icne_t rfl hc ?_
      refine R_iinc (p := 91) rfl l6 rfl ki_1 rfl ?_
      refine R_goto rfl ?_
      obtain rfl := Option.some.inj h
      exact hq _ (jg_ne l0 rfl) (jg_ne l1 rfl) (jg_ne l3 rfl) (jg_ne l4 rfl) (jg_ne l5 rfl) jg_self
theorem LX7_giveWater_59 {xs : List Int32} {d : Nat} {r : jR} {K : Mem → List jE} (hK : Ctx shC K) (hd : 4 ≤ d) {k : Nat} (hk : k < 3)  {x1 : Int32} {x3 : Int32} {x4 : Int32} {x5 : Int32} (n : Nat) (s : Int32 × Mem) {t : Mem} (h : lp (lX7_giveWater_59 k x1 x3 x4 x5) n s = some t) (hq : (qM r K) t) : gX7_giveWater_59 xs d r K k x1 x3 x4 x5 s := lp_ind (G := gX7_giveWater_59 xs d r K k x1 x3 x4 x5) (Qe := (qM r K)) (fun s t h hq => BX7_giveWater_59 hK hd hk s h hq) n s t h hq
theorem tbX7_giveWater_31 {xs : List Int32} {d : Nat} {r : jR} {K : Mem → List jE} (hK : Ctx shC K) (hd : 4 ≤ d) {k : Nat} (hk : k < 3)  {x1 : Int32} {y0 : Int32} {y1 : Int32} {m : Mem} {L : List (Nat × Value)} (l0 : jget L 0 = some (.ref (cw k 1))) (l1 : jget L 1 = some (.int x1)) {t : Mem} (h : bX7_giveWater_31 k x1 y0 y1 m = some t) (hq : (qM r K) t) : RunD (jcs xs) d 7 (none) jt_X7_giveWater (31, L, [.int y1, .int y0], (K m)) r := by
  unfold bX7_giveWater_31 at h
  obtain ⟨b4, h⟩ := gd h
  refine R_idiv (p := 32) rfl b4 rfl ?_
  refine R_istore_n (p := 33) rfl rfl rfl ?_
  refine R_aload_n (p := 34) rfl (jg_ne l0 rfl) rfl ?_
  refine R_iload_n (p := 35) rfl (jg_ne l1 rfl) rfl ?_
  obtain ⟨q5, eq5, h⟩ := bind_some h
  refine R_cV2v (p := 38) hK rfl (s_w1 hk) (tfX7_bitsBelow hK (Nat.le_trans (by decide) hd) hk eq5) rfl rfl ?_
  refine R_istore_n (p := 39) rfl rfl rfl ?_
  refine R_iload_n (p := 40) rfl jg_self rfl ?_
  refine R_cS1v (p := 43) rfl (tfJ6_bitCount_0f7a4 (Nat.le_trans (by decide) hd) ) rfl rfl ?_
  refine R_istore (p := 45) rfl rfl rfl ?_
  refine R_iload (p := 47) rfl jg_self rfl ?_
  by_cases hc : (fJ6_bitCount_0f7a4 q5) ≤ 0
  · replace h := ite_t h hc
    refine R_ifle_t rfl hc ?_
    refine R_aload_n (p := 112) rfl (jg_ne (jg_ne (jg_ne l0 rfl) rfl) rfl) rfl ?_
    refine R_getR (p := 115) (q := (cw k 2)) hK rfl (s_w1 hk) rfl rfl ?_
    refine R_iload_n (p := 116) rfl (jg_ne (jg_ne (jg_ne l1 rfl) rfl) rfl) rfl ?_
    obtain ⟨q7, eq7, h⟩ := bind_some h
    refine R_cV2v (p := 119) hK rfl (s_w2 hk) (tfX0_glasses hK (Nat.le_trans (by decide) hd) hk eq7) rfl rfl ?_
    by_cases hc : q7 ≤ 0
    · replace h := ite_t h hc
      refine R_ifle_t rfl hc ?_
      obtain rfl := Option.some.inj h
      exact R_return rfl rfl hq
    · replace h := ite_f h hc
      refine R_ifle_f (p := 122) rfl hc rfl ?_
      refine R_aload_n (p := 123) rfl (jg_ne (jg_ne (jg_ne l0 rfl) rfl) rfl) rfl ?_
      refine R_getR (p := 126) (q := (cw k 39)) hK rfl (s_w1 hk) rfl rfl ?_
      refine R_iload_n (p := 127) rfl (jg_ne (jg_ne (jg_ne l1 rfl) rfl) rfl) rfl ?_
      refine R_dup2ia (p := 128) rfl rfl ?_
      obtain ⟨b8, h⟩ := gd h
      refine R_iald (p := 129) hK rfl (s_w39 hk) b8 rfl ?_
      refine R_iload_n (p := 130) rfl (jg_ne (jg_ne jg_self rfl) rfl) rfl ?_
      refine R_isub (p := 131) rfl rfl ?_
      obtain ⟨b9, h⟩ := gd h
      refine R_iast (p := 132) hK rfl (s_w39 hk) b9 rfl ?_
      refine R_aload_n (p := 133) rfl (jg_ne (jg_ne (jg_ne l0 rfl) rfl) rfl) rfl ?_
      refine R_iload_n (p := 134) rfl (jg_ne (jg_ne jg_self rfl) rfl) rfl ?_
      refine R_cV2n (p := 137) hK rfl (s_w1 hk) (tfX7_drain hK (Nat.le_trans (by decide) hd) hk) rfl rfl ?_
      obtain rfl := Option.some.inj h
      exact R_return rfl rfl hq
  · replace h := ite_f h hc
    refine R_ifle_f (p := 50) rfl hc rfl ?_
    refine R_iload_n (p := 51) rfl (jg_ne (jg_ne jg_self rfl) rfl) rfl ?_
    refine R_iload (p := 53) rfl jg_self rfl ?_
    obtain ⟨b11, h⟩ := gd h
    refine R_idiv (p := 54) rfl b11 rfl ?_
    refine R_istore (p := 56) rfl rfl rfl ?_
    refine R_iconst (p := 57) rfl ki_0 rfl ?_
    refine R_istore (p := 59) rfl rfl rfl ?_
    exact LX7_giveWater_59 hK hd hk _ _ h hq _ (jg_ne (jg_ne (jg_ne (jg_ne (jg_ne l0 rfl) rfl) rfl) rfl) rfl) (jg_ne (jg_ne (jg_ne (jg_ne (jg_ne l1 rfl) rfl) rfl) rfl) rfl) (jg_ne (jg_ne (jg_ne jg_self rfl) rfl) rfl) (jg_ne (jg_ne jg_self rfl) rfl) (jg_ne jg_self rfl) jg_self
theorem ufX7_giveWater {xs : List Int32} {d : Nat} {r : jR} {K : Mem → List jE} (hK : Ctx shC K) (hd : 4 ≤ d) {k : Nat} (hk : k < 3) {x1 : Int32} {m : Mem} {L : List (Nat × Value)} (l0 : jget L 0 = some (.ref (cw k 1))) (l1 : jget L 1 = some (.int x1)) {t : Mem} (h : fX7_giveWater k x1 m = some t) (hq : (qM r K) t) : RunD (jcs xs) d 7 (none) jt_X7_giveWater (0, L, [], (K m)) r := by
  unfold fX7_giveWater at h
  refine R_aload_n (p := 1) rfl l0 rfl ?_
  refine R_getR (p := 4) (q := (cw k 2)) hK rfl (s_w1 hk) rfl rfl ?_
  refine R_getR (p := 7) (q := (cw k 5)) hK rfl (s_w2 hk) rfl rfl ?_
  refine R_iload_n (p := 8) rfl l1 rfl ?_
  obtain ⟨b1, h⟩ := gd h
  refine R_iald (p := 9) hK rfl (s_w5 hk) b1 rfl ?_
  refine R_aload_n (p := 10) rfl l0 rfl ?_
  refine R_getR (p := 13) (q := (cw k 2)) hK rfl (s_w1 hk) rfl rfl ?_
  refine R_getR (p := 16) (q := (cw k 3)) hK rfl (s_w2 hk) rfl rfl ?_
  refine R_iload_n (p := 17) rfl l1 rfl ?_
  obtain ⟨b2, h⟩ := gd h
  refine R_iald (p := 18) hK rfl (s_w3 hk) b2 rfl ?_
  refine R_iconst (p := 19) rfl ki_3 rfl ?_
  obtain ⟨q3, eq3, h⟩ := bind_some h
  refine R_cS2v (p := 22) rfl (tfX1_isUnder hK (Nat.le_trans (by decide) hd)  eq3) rfl rfl ?_
  by_cases hc : q3 = 0
  · replace h := ite_t h hc
    refine R_ifeq_t rfl hc ?_
    refine R_iconst (p := 31) rfl ki_4 rfl ?_
    exact tbX7_giveWater_31 hK hd hk l0 l1 h hq
  · replace h := ite_f h hc
    refine R_ifeq_f (p := 25) rfl hc rfl ?_
    refine R_bipush (p := 27) rfl kb_8 rfl ?_
    refine R_goto rfl ?_
    exact tbX7_giveWater_31 hK hd hk l0 l1 h hq
theorem tfX7_giveWater {xs : List Int32} {d : Nat} {K : Mem → List jE} (hK : Ctx shC K) (hd : 5 ≤ d) {k : Nat} (hk : k < 3) {x1 : Int32} {m : Mem} {t : Mem} (h : fX7_giveWater k x1 m = some t) : CallD (jcs xs) d 94 [.ref (cw k 1), .int x1] (K m) (none, K t) := by
  obtain ⟨d, rfl⟩ : ∃ z, d = z + 1 := ⟨d - 1, by omega⟩
  refine CallD_of jmt_X7_giveWater rfl ⟨rfl, Nat.le_of_ble_eq_true rfl⟩ ?_
  exact ufX7_giveWater hK (Nat.le_of_succ_le_succ hd) hk rfl rfl h rfl
noncomputable def lX7_runDown_40 (k : Nat) (s : Int32 × Mem) : Option ((Int32 × Mem) ⊕ Mem) := (if (16 : Int32) ≤ s.1 then some (.inr s.2) else (if (fX0_has k s.1 s.2) = 0 then some (.inl ((s.1 + (1 : Int32)), s.2)) else (if inb s.1 16 then (if inb s.1 16 then (if inb s.1 16 then (if inb s.1 16 then some (.inl ((s.1 + (1 : Int32)), (fX7_drain k (((s.2 (cw k 5) s.1.toNatClampNeg) + (s.2 (cw k 39) s.1.toNatClampNeg)) - ((mput s.2 (cw k 5) s.1.toNatClampNeg (fJ9_min_7cf53 (99999 : Int32) ((s.2 (cw k 5) s.1.toNatClampNeg) + (s.2 (cw k 39) s.1.toNatClampNeg)))) (cw k 5) s.1.toNatClampNeg)) (mput s.2 (cw k 5) s.1.toNatClampNeg (fJ9_min_7cf53 (99999 : Int32) ((s.2 (cw k 5) s.1.toNatClampNeg) + (s.2 (cw k 39) s.1.toNatClampNeg))))))) else none) else none) else none) else none)))
noncomputable def gX7_runDown_40 (xs : List Int32) (d : Nat) (r : jR) (K : Mem → List jE) (k : Nat) (s : Int32 × Mem) : Prop := ∀ L, jget L 0 = some (.ref (cw k 1)) → jget L 1 = some (.int s.1) → RunD (jcs xs) d 3 (none) jt_X7_runDown (40, L, [], (K s.2)) r
noncomputable def lX7_runDown_10 (k : Nat) (s : Int32 × Mem) : Option ((Int32 × Mem) ⊕ Mem) := (if (16 : Int32) ≤ s.1 then (lp (lX7_runDown_40 k) fu ((0 : Int32), s.2)).map Sum.inr else (if (fX0_has k s.1 s.2) = 0 then some (.inl ((s.1 + (1 : Int32)), s.2)) else (fX7_giveWater k s.1 s.2).bind fun q10 => some (.inl ((s.1 + (1 : Int32)), q10))))
noncomputable def gX7_runDown_10 (xs : List Int32) (d : Nat) (r : jR) (K : Mem → List jE) (k : Nat) (s : Int32 × Mem) : Prop := ∀ L, jget L 0 = some (.ref (cw k 1)) → jget L 1 = some (.int s.1) → RunD (jcs xs) d 3 (none) jt_X7_runDown (10, L, [], (K s.2)) r
noncomputable def fX7_runDown (k : Nat) (m : Mem) : Option Mem := (fJ7_fill_53178_16 (cw k 39) (0 : Int32) m).bind fun q1 => lp (lX7_runDown_10 k) fu ((0 : Int32), q1)
theorem BX7_runDown_40 {xs : List Int32} {d : Nat} {r : jR} {K : Mem → List jE} (hK : Ctx shC K) (hd : 5 ≤ d) {k : Nat} (hk : k < 3)  (s : Int32 × Mem) {t : (Int32 × Mem) ⊕ Mem} (h : lX7_runDown_40 k s = some t) (hq : sQ (gX7_runDown_40 xs d r K k) (qM r K) t) : gX7_runDown_40 xs d r K k s := by
  intro L l0 l1
  unfold lX7_runDown_40 at h
  refine R_iload_n (p := 41) rfl l1 rfl ?_
  refine R_bipush (p := 43) rfl kb_16 rfl ?_
  by_cases hc : (16 : Int32) ≤ s.1
  · replace h := ite_t h hc
    refine R_icge_t rfl hc ?_
    obtain rfl := Option.some.inj h
    exact R_return rfl rfl hq
  · replace h := ite_f h hc
    refine R_icge_f (p := 46) rfl hc rfl ?_
    refine R_aload_n (p := 47) rfl l0 rfl ?_
    refine R_getR (p := 50) (q := (cw k 2)) hK rfl (s_w1 hk) rfl rfl ?_
    refine R_iload_n (p := 51) rfl l1 rfl ?_
    refine R_cV2v (p := 54) hK rfl (s_w2 hk) (tfX0_has hK (Nat.le_trans (by decide) hd) hk) rfl rfl ?_
    by_cases hc : (fX0_has k s.1 s.2) = 0
    · replace h := ite_t h hc
      refine R_ifeq_t rfl hc ?_
      refine R_iinc (p := 107) rfl l1 rfl ki_1 rfl ?_
      refine R_goto rfl ?_
      obtain rfl := Option.some.inj h
      exact hq _ (jg_ne l0 rfl) jg_self
    · replace h := ite_f h hc
      refine R_ifeq_f (p := 57) rfl hc rfl ?_
      refine R_aload_n (p := 58) rfl l0 rfl ?_
      refine R_getR (p := 61) (q := (cw k 2)) hK rfl (s_w1 hk) rfl rfl ?_
      refine R_getR (p := 64) (q := (cw k 5)) hK rfl (s_w2 hk) rfl rfl ?_
      refine R_iload_n (p := 65) rfl l1 rfl ?_
      obtain ⟨b3, h⟩ := gd h
      refine R_iald (p := 66) hK rfl (s_w5 hk) b3 rfl ?_
      refine R_aload_n (p := 67) rfl l0 rfl ?_
      refine R_getR (p := 70) (q := (cw k 39)) hK rfl (s_w1 hk) rfl rfl ?_
      refine R_iload_n (p := 71) rfl l1 rfl ?_
      obtain ⟨b4, h⟩ := gd h
      refine R_iald (p := 72) hK rfl (s_w39 hk) b4 rfl ?_
      refine R_iadd (p := 73) rfl rfl ?_
      refine R_istore_n (p := 74) rfl rfl rfl ?_
      refine R_aload_n (p := 75) rfl (jg_ne l0 rfl) rfl ?_
      refine R_getR (p := 78) (q := (cw k 2)) hK rfl (s_w1 hk) rfl rfl ?_
      refine R_getR (p := 81) (q := (cw k 5)) hK rfl (s_w2 hk) rfl rfl ?_
      refine R_iload_n (p := 82) rfl (jg_ne l1 rfl) rfl ?_
      refine R_ldc (p := 84) rfl kl_99999 rfl ?_
      refine R_iload_n (p := 85) rfl jg_self rfl ?_
      refine R_cS2v (p := 88) rfl (tfJ9_min_7cf53 (Nat.le_trans (by decide) hd) ) rfl rfl ?_
      obtain ⟨b6, h⟩ := gd h
      refine R_iast (p := 89) hK rfl (s_w5 hk) b6 rfl ?_
      refine R_aload_n (p := 90) rfl (jg_ne l0 rfl) rfl ?_
      refine R_iload_n (p := 91) rfl jg_self rfl ?_
      refine R_aload_n (p := 92) rfl (jg_ne l0 rfl) rfl ?_
      refine R_getR (p := 95) (q := (cw k 2)) hK rfl (s_w1 hk) rfl rfl ?_
      refine R_getR (p := 98) (q := (cw k 5)) hK rfl (s_w2 hk) rfl rfl ?_
      refine R_iload_n (p := 99) rfl (jg_ne l1 rfl) rfl ?_
      obtain ⟨b7, h⟩ := gd h
      refine R_iald (p := 100) hK rfl (s_w5 hk) b7 rfl ?_
      refine R_isub (p := 101) rfl rfl ?_
      refine R_cV2n (p := 104) hK rfl (s_w1 hk) (tfX7_drain hK (Nat.le_trans (by decide) hd) hk) rfl rfl ?_
      refine R_iinc (p := 107) rfl (jg_ne l1 rfl) rfl ki_1 rfl ?_
      refine R_goto rfl ?_
      obtain rfl := Option.some.inj h
      exact hq _ (jg_ne (jg_ne l0 rfl) rfl) jg_self
theorem LX7_runDown_40 {xs : List Int32} {d : Nat} {r : jR} {K : Mem → List jE} (hK : Ctx shC K) (hd : 5 ≤ d) {k : Nat} (hk : k < 3)  (n : Nat) (s : Int32 × Mem) {t : Mem} (h : lp (lX7_runDown_40 k) n s = some t) (hq : (qM r K) t) : gX7_runDown_40 xs d r K k s := lp_ind (G := gX7_runDown_40 xs d r K k) (Qe := (qM r K)) (fun s t h hq => BX7_runDown_40 hK hd hk s h hq) n s t h hq
theorem BX7_runDown_10 {xs : List Int32} {d : Nat} {r : jR} {K : Mem → List jE} (hK : Ctx shC K) (hd : 5 ≤ d) {k : Nat} (hk : k < 3)  (s : Int32 × Mem) {t : (Int32 × Mem) ⊕ Mem} (h : lX7_runDown_10 k s = some t) (hq : sQ (gX7_runDown_10 xs d r K k) (qM r K) t) : gX7_runDown_10 xs d r K k s := by
  intro L l0 l1
  unfold lX7_runDown_10 at h
  refine R_iload_n (p := 11) rfl l1 rfl ?_
  refine R_bipush (p := 13) rfl kb_16 rfl ?_
  by_cases hc : (16 : Int32) ≤ s.1
  · replace h := ite_t h hc
    refine R_icge_t rfl hc ?_
    refine R_iconst (p := 39) rfl ki_0 rfl ?_
    refine R_istore_n (p := 40) rfl rfl rfl ?_
    obtain ⟨w9, h9, rfl⟩ := map_inr h
    replace h := h9
    exact LX7_runDown_40 hK hd hk _ _ h hq _ (jg_ne l0 rfl) jg_self
  · replace h := ite_f h hc
    refine R_icge_f (p := 16) rfl hc rfl ?_
    refine R_aload_n (p := 17) rfl l0 rfl ?_
    refine R_getR (p := 20) (q := (cw k 2)) hK rfl (s_w1 hk) rfl rfl ?_
    refine R_iload_n (p := 21) rfl l1 rfl ?_
    refine R_cV2v (p := 24) hK rfl (s_w2 hk) (tfX0_has hK (Nat.le_trans (by decide) hd) hk) rfl rfl ?_
    by_cases hc : (fX0_has k s.1 s.2) = 0
    · replace h := ite_t h hc
      refine R_ifeq_t rfl hc ?_
      refine R_iinc (p := 35) rfl l1 rfl ki_1 rfl ?_
      refine R_goto rfl ?_
      obtain rfl := Option.some.inj h
      exact hq _ (jg_ne l0 rfl) jg_self
    · replace h := ite_f h hc
      refine R_ifeq_f (p := 27) rfl hc rfl ?_
      refine R_aload_n (p := 28) rfl l0 rfl ?_
      refine R_iload_n (p := 29) rfl l1 rfl ?_
      obtain ⟨q10, eq10, h⟩ := bind_some h
      refine R_cV2n (p := 32) hK rfl (s_w1 hk) (tfX7_giveWater hK (Nat.le_trans (by decide) hd) hk eq10) rfl rfl ?_
      refine R_iinc (p := 35) rfl l1 rfl ki_1 rfl ?_
      refine R_goto rfl ?_
      obtain rfl := Option.some.inj h
      exact hq _ (jg_ne l0 rfl) jg_self
theorem LX7_runDown_10 {xs : List Int32} {d : Nat} {r : jR} {K : Mem → List jE} (hK : Ctx shC K) (hd : 5 ≤ d) {k : Nat} (hk : k < 3)  (n : Nat) (s : Int32 × Mem) {t : Mem} (h : lp (lX7_runDown_10 k) n s = some t) (hq : (qM r K) t) : gX7_runDown_10 xs d r K k s := lp_ind (G := gX7_runDown_10 xs d r K k) (Qe := (qM r K)) (fun s t h hq => BX7_runDown_10 hK hd hk s h hq) n s t h hq
theorem ufX7_runDown {xs : List Int32} {d : Nat} {r : jR} {K : Mem → List jE} (hK : Ctx shC K) (hd : 5 ≤ d) {k : Nat} (hk : k < 3) {m : Mem} {L : List (Nat × Value)} (l0 : jget L 0 = some (.ref (cw k 1))) {t : Mem} (h : fX7_runDown k m = some t) (hq : (qM r K) t) : RunD (jcs xs) d 3 (none) jt_X7_runDown (0, L, [], (K m)) r := by
  unfold fX7_runDown at h
  refine R_aload_n (p := 1) rfl l0 rfl ?_
  refine R_getR (p := 4) (q := (cw k 39)) hK rfl (s_w1 hk) rfl rfl ?_
  refine R_iconst (p := 5) rfl ki_0 rfl ?_
  obtain ⟨q1, eq1, h⟩ := bind_some h
  refine R_cS2n (p := 8) rfl (tfJ7_fill_53178_16 hK (Nat.le_trans (by decide) hd) (s_w39 hk) eq1) rfl rfl ?_
  refine R_iconst (p := 9) rfl ki_0 rfl ?_
  refine R_istore_n (p := 10) rfl rfl rfl ?_
  exact LX7_runDown_10 hK hd hk _ _ h hq _ (jg_ne l0 rfl) jg_self
theorem tfX7_runDown {xs : List Int32} {d : Nat} {K : Mem → List jE} (hK : Ctx shC K) (hd : 6 ≤ d) {k : Nat} (hk : k < 3) {m : Mem} {t : Mem} (h : fX7_runDown k m = some t) : CallD (jcs xs) d 93 [.ref (cw k 1)] (K m) (none, K t) := by
  obtain ⟨d, rfl⟩ : ∃ z, d = z + 1 := ⟨d - 1, by omega⟩
  refine CallD_of jmt_X7_runDown rfl ⟨rfl, Nat.le_of_ble_eq_true rfl⟩ ?_
  exact ufX7_runDown hK (Nat.le_of_succ_le_succ hd) hk rfl h rfl
noncomputable def fX7_burstOf (k : Nat) (x1 : Int32) (x2 : Int32) (m : Mem) : Option (Int32 × Mem) := (if inb x1 16 then (if inb x2 16 then (if inb x1 16 then (if inb x2 16 then (if (fX5_isTold k 1 m) = 0 then (fX7_dry k x1 m).bind fun q8 => (if (fJ9_min_7cf53 (m (cw k 5) x1.toNatClampNeg) (m (cw k 5) x2.toNatClampNeg)) < q8 then some ((1 : Int32), m) else (fX7_dry k x2 m).bind fun q9 => (if q9 ≤ (fJ9_min_7cf53 (m (cw k 5) x1.toNatClampNeg) (m (cw k 5) x2.toNatClampNeg)) then some ((0 : Int32), m) else some ((1 : Int32), m))) else (if inb x1 16 then (if inb x2 16 then (fX5_value_5 k 1 (cw k 38) (fX7_name k (fJ9_min_7cf53 (m (cw k 5) x1.toNatClampNeg) (m (cw k 5) x2.toNatClampNeg)) (fJ9_max_7cf53 (m (cw k 5) x1.toNatClampNeg) (m (cw k 5) x2.toNatClampNeg)) (m (cw k 7) x1.toNatClampNeg) (m (cw k 7) x2.toNatClampNeg) (m (cw k 1) 10) m)).bind fun q13 => some (q13.1, q13.2) else none) else none)) else none) else none) else none) else none)
theorem ufX7_burstOf {xs : List Int32} {d : Nat} {r : jR} {K : Mem → List jE} (hK : Ctx shC K) (hd : 2 ≤ d) {k : Nat} (hk : k < 3) {x1 : Int32} {x2 : Int32} {m : Mem} {L : List (Nat × Value)} (l0 : jget L 0 = some (.ref (cw k 1))) (l1 : jget L 1 = some (.int x1)) (l2 : jget L 2 = some (.int x2)) {t : (Int32 × Mem)} (h : fX7_burstOf k x1 x2 m = some t) (hq : (qIM r K) t) : RunD (jcs xs) d 5 (some .int) jt_X7_burstOf (0, L, [], (K m)) r := by
  unfold fX7_burstOf at h
  refine R_aload_n (p := 1) rfl l0 rfl ?_
  refine R_getR (p := 4) (q := (cw k 2)) hK rfl (s_w1 hk) rfl rfl ?_
  refine R_getR (p := 7) (q := (cw k 5)) hK rfl (s_w2 hk) rfl rfl ?_
  refine R_iload_n (p := 8) rfl l1 rfl ?_
  obtain ⟨b1, h⟩ := gd h
  refine R_iald (p := 9) hK rfl (s_w5 hk) b1 rfl ?_
  refine R_aload_n (p := 10) rfl l0 rfl ?_
  refine R_getR (p := 13) (q := (cw k 2)) hK rfl (s_w1 hk) rfl rfl ?_
  refine R_getR (p := 16) (q := (cw k 5)) hK rfl (s_w2 hk) rfl rfl ?_
  refine R_iload_n (p := 17) rfl l2 rfl ?_
  obtain ⟨b2, h⟩ := gd h
  refine R_iald (p := 18) hK rfl (s_w5 hk) b2 rfl ?_
  refine R_cS2v (p := 21) rfl (tfJ9_min_7cf53 (Nat.le_trans (by decide) hd) ) rfl rfl ?_
  refine R_istore_n (p := 22) rfl rfl rfl ?_
  refine R_aload_n (p := 23) rfl (jg_ne l0 rfl) rfl ?_
  refine R_getR (p := 26) (q := (cw k 2)) hK rfl (s_w1 hk) rfl rfl ?_
  refine R_getR (p := 29) (q := (cw k 5)) hK rfl (s_w2 hk) rfl rfl ?_
  refine R_iload_n (p := 30) rfl (jg_ne l1 rfl) rfl ?_
  obtain ⟨b4, h⟩ := gd h
  refine R_iald (p := 31) hK rfl (s_w5 hk) b4 rfl ?_
  refine R_aload_n (p := 32) rfl (jg_ne l0 rfl) rfl ?_
  refine R_getR (p := 35) (q := (cw k 2)) hK rfl (s_w1 hk) rfl rfl ?_
  refine R_getR (p := 38) (q := (cw k 5)) hK rfl (s_w2 hk) rfl rfl ?_
  refine R_iload_n (p := 39) rfl (jg_ne l2 rfl) rfl ?_
  obtain ⟨b5, h⟩ := gd h
  refine R_iald (p := 40) hK rfl (s_w5 hk) b5 rfl ?_
  refine R_cS2v (p := 43) rfl (tfJ9_max_7cf53 (Nat.le_trans (by decide) hd) ) rfl rfl ?_
  refine R_istore (p := 45) rfl rfl rfl ?_
  refine R_aload_n (p := 46) rfl (jg_ne (jg_ne l0 rfl) rfl) rfl ?_
  refine R_getR (p := 49) (q := (cw k 26)) hK rfl (s_w1 hk) rfl rfl ?_
  refine R_iconst (p := 50) rfl ki_1 rfl ?_
  refine R_aalk (p := 51) (q := (cw k (27 + 3 * 1))) hK rfl (s_w26 hk) (by decide) (by decide) kn_1 (l_text (by decide)) rfl ?_
  refine R_cV1v (p := 54) hK rfl (s_text hk (by decide)) (tfX5_isTold hK (Nat.le_trans (by decide) hd) hk (by decide)) rfl rfl ?_
  by_cases hc : (fX5_isTold k 1 m) = 0
  · replace h := ite_t h hc
    refine R_ifne_f (p := 57) rfl (fun z => z hc) rfl ?_
    refine R_iload_n (p := 58) rfl (jg_ne jg_self rfl) rfl ?_
    refine R_aload_n (p := 59) rfl (jg_ne (jg_ne l0 rfl) rfl) rfl ?_
    refine R_iload_n (p := 60) rfl (jg_ne (jg_ne l1 rfl) rfl) rfl ?_
    obtain ⟨q8, eq8, h⟩ := bind_some h
    refine R_cV2v (p := 63) hK rfl (s_w1 hk) (tfX7_dry hK (Nat.le_trans (by decide) hd) hk eq8) rfl rfl ?_
    by_cases hc : (fJ9_min_7cf53 (m (cw k 5) x1.toNatClampNeg) (m (cw k 5) x2.toNatClampNeg)) < q8
    · replace h := ite_t h hc
      refine R_iclt_t rfl hc ?_
      refine R_iconst (p := 76) rfl ki_1 rfl ?_
      refine R_goto rfl ?_
      obtain rfl := Option.some.inj h
      exact R_ireturn rfl rfl hq
    · replace h := ite_f h hc
      refine R_iclt_f (p := 66) rfl hc rfl ?_
      refine R_iload_n (p := 67) rfl (jg_ne jg_self rfl) rfl ?_
      refine R_aload_n (p := 68) rfl (jg_ne (jg_ne l0 rfl) rfl) rfl ?_
      refine R_iload_n (p := 69) rfl (jg_ne (jg_ne l2 rfl) rfl) rfl ?_
      obtain ⟨q9, eq9, h⟩ := bind_some h
      refine R_cV2v (p := 72) hK rfl (s_w1 hk) (tfX7_dry hK (Nat.le_trans (by decide) hd) hk eq9) rfl rfl ?_
      by_cases hc : q9 ≤ (fJ9_min_7cf53 (m (cw k 5) x1.toNatClampNeg) (m (cw k 5) x2.toNatClampNeg))
      · replace h := ite_t h hc
        refine R_icge_t rfl hc ?_
        refine R_iconst (p := 80) rfl ki_0 rfl ?_
        obtain rfl := Option.some.inj h
        exact R_ireturn rfl rfl hq
      · replace h := ite_f h hc
        refine R_icge_f (p := 75) rfl hc rfl ?_
        refine R_iconst (p := 76) rfl ki_1 rfl ?_
        refine R_goto rfl ?_
        obtain rfl := Option.some.inj h
        exact R_ireturn rfl rfl hq
  · replace h := ite_f h hc
    refine R_ifne_t rfl hc ?_
    refine R_aload_n (p := 82) rfl (jg_ne (jg_ne l0 rfl) rfl) rfl ?_
    refine R_iload_n (p := 83) rfl (jg_ne jg_self rfl) rfl ?_
    refine R_iload (p := 85) rfl jg_self rfl ?_
    refine R_aload_n (p := 86) rfl (jg_ne (jg_ne l0 rfl) rfl) rfl ?_
    refine R_getR (p := 89) (q := (cw k 2)) hK rfl (s_w1 hk) rfl rfl ?_
    refine R_getR (p := 92) (q := (cw k 7)) hK rfl (s_w2 hk) rfl rfl ?_
    refine R_iload_n (p := 93) rfl (jg_ne (jg_ne l1 rfl) rfl) rfl ?_
    obtain ⟨b10, h⟩ := gd h
    refine R_iald (p := 94) hK rfl (s_w7 hk) b10 rfl ?_
    refine R_aload_n (p := 95) rfl (jg_ne (jg_ne l0 rfl) rfl) rfl ?_
    refine R_getR (p := 98) (q := (cw k 2)) hK rfl (s_w1 hk) rfl rfl ?_
    refine R_getR (p := 101) (q := (cw k 7)) hK rfl (s_w2 hk) rfl rfl ?_
    refine R_iload_n (p := 102) rfl (jg_ne (jg_ne l2 rfl) rfl) rfl ?_
    obtain ⟨b11, h⟩ := gd h
    refine R_iald (p := 103) hK rfl (s_w7 hk) b11 rfl ?_
    refine R_aload_n (p := 104) rfl (jg_ne (jg_ne l0 rfl) rfl) rfl ?_
    refine R_getI (p := 107) hK rfl (s_w1 hk) rfl rfl ?_
    refine R_cV6n (p := 110) hK rfl (s_w1 hk) (tfX7_name hK (Nat.le_trans (by decide) hd) hk) rfl rfl ?_
    refine R_aload_n (p := 111) rfl (jg_ne (jg_ne l0 rfl) rfl) rfl ?_
    refine R_getR (p := 114) (q := (cw k 26)) hK rfl (s_w1 hk) rfl rfl ?_
    refine R_iconst (p := 115) rfl ki_1 rfl ?_
    refine R_aalk (p := 116) (q := (cw k (27 + 3 * 1))) hK rfl (s_w26 hk) (by decide) (by decide) kn_1 (l_text (by decide)) rfl ?_
    refine R_aload_n (p := 117) rfl (jg_ne (jg_ne l0 rfl) rfl) rfl ?_
    refine R_getR (p := 120) (q := (cw k 38)) hK rfl (s_w1 hk) rfl rfl ?_
    obtain ⟨q13, eq13, h⟩ := bind_some h
    refine R_cV2v (p := 123) hK rfl (s_text hk (by decide)) (tfX5_value_5 hK (Nat.le_trans (by decide) hd) hk (by decide) (s_w38 hk) eq13) rfl rfl ?_
    obtain rfl := Option.some.inj h
    exact R_ireturn rfl rfl hq
theorem tfX7_burstOf {xs : List Int32} {d : Nat} {K : Mem → List jE} (hK : Ctx shC K) (hd : 3 ≤ d) {k : Nat} (hk : k < 3) {x1 : Int32} {x2 : Int32} {m : Mem} {t : (Int32 × Mem)} (h : fX7_burstOf k x1 x2 m = some t) : CallD (jcs xs) d 86 [.ref (cw k 1), .int x1, .int x2] (K m) (some (.int t.1), K t.2) := by
  obtain ⟨d, rfl⟩ : ∃ z, d = z + 1 := ⟨d - 1, by omega⟩
  refine CallD_of jmt_X7_burstOf rfl ⟨rfl, Nat.le_of_ble_eq_true rfl⟩ ?_
  exact ufX7_burstOf hK (Nat.le_of_succ_le_succ hd) hk rfl rfl rfl h rfl
noncomputable def fX7_drawn (k : Nat) (m : Mem) : Option (Int32 × Mem) := (if (((mput m (cw k 1) 9 (((m (cw k 1) 9) * (1103515245 : Int32)) + (12345 : Int32))) (cw k 1) 8) - ((mput m (cw k 1) 9 (((m (cw k 1) 9) * (1103515245 : Int32)) + (12345 : Int32))) (cw k 1) 8) / (10 : Int32) * (10 : Int32)) ≤ 0 then some ((0 : Int32), (mput m (cw k 1) 9 (((m (cw k 1) 9) * (1103515245 : Int32)) + (12345 : Int32)))) else (if ¬ (((mput m (cw k 1) 9 (((m (cw k 1) 9) * (1103515245 : Int32)) + (12345 : Int32))) (cw k 1) 8) - ((mput m (cw k 1) 9 (((m (cw k 1) 9) * (1103515245 : Int32)) + (12345 : Int32))) (cw k 1) 8) / (10 : Int32) * (10 : Int32)) = 0 then (if (((mput m (cw k 1) 9 (((m (cw k 1) 9) * (1103515245 : Int32)) + (12345 : Int32))) (cw k 1) 8) / (10 : Int32)) ≤ ((jUshr ((mput m (cw k 1) 9 (((m (cw k 1) 9) * (1103515245 : Int32)) + (12345 : Int32))) (cw k 1) 9) (8 : Int32)) - (jUshr ((mput m (cw k 1) 9 (((m (cw k 1) 9) * (1103515245 : Int32)) + (12345 : Int32))) (cw k 1) 9) (8 : Int32)) / (((mput m (cw k 1) 9 (((m (cw k 1) 9) * (1103515245 : Int32)) + (12345 : Int32))) (cw k 1) 8) - ((mput m (cw k 1) 9 (((m (cw k 1) 9) * (1103515245 : Int32)) + (12345 : Int32))) (cw k 1) 8) / (10 : Int32) * (10 : Int32)) * (((mput m (cw k 1) 9 (((m (cw k 1) 9) * (1103515245 : Int32)) + (12345 : Int32))) (cw k 1) 8) - ((mput m (cw k 1) 9 (((m (cw k 1) 9) * (1103515245 : Int32)) + (12345 : Int32))) (cw k 1) 8) / (10 : Int32) * (10 : Int32))) then some ((0 : Int32), (mput m (cw k 1) 9 (((m (cw k 1) 9) * (1103515245 : Int32)) + (12345 : Int32)))) else some ((1 : Int32), (mput m (cw k 1) 9 (((m (cw k 1) 9) * (1103515245 : Int32)) + (12345 : Int32))))) else none))
theorem ufX7_drawn {xs : List Int32} {d : Nat} {r : jR} {K : Mem → List jE} (hK : Ctx shC K) (hd : 0 ≤ d) {k : Nat} (hk : k < 3) {m : Mem} {L : List (Nat × Value)} (l0 : jget L 0 = some (.ref (cw k 1))) {t : (Int32 × Mem)} (h : fX7_drawn k m = some t) (hq : (qIM r K) t) : RunD (jcs xs) d 2 (some .boolean) jt_X7_drawn (0, L, [], (K m)) r := by
  unfold fX7_drawn at h
  refine R_aload_n (p := 1) rfl l0 rfl ?_
  refine R_aload_n (p := 2) rfl l0 rfl ?_
  refine R_getI (p := 5) hK rfl (s_w1 hk) rfl rfl ?_
  refine R_ldc (p := 7) rfl kl_1103515245 rfl ?_
  refine R_imul (p := 8) rfl rfl ?_
  refine R_sipush (p := 11) rfl ks_12345 rfl ?_
  refine R_iadd (p := 12) rfl rfl ?_
  refine R_putI (p := 15) hK rfl (s_w1 hk) rfl rfl rfl ?_
  refine R_aload_n (p := 16) rfl l0 rfl ?_
  refine R_getI (p := 19) hK rfl (s_w1 hk) rfl rfl ?_
  refine R_bipush (p := 21) rfl kb_10 rfl ?_
  refine R_irem (p := 22) rfl (by decide) rfl ?_
  refine R_istore_n (p := 23) rfl rfl rfl ?_
  refine R_iload_n (p := 24) rfl jg_self rfl ?_
  by_cases hc : (((mput m (cw k 1) 9 (((m (cw k 1) 9) * (1103515245 : Int32)) + (12345 : Int32))) (cw k 1) 8) - ((mput m (cw k 1) 9 (((m (cw k 1) 9) * (1103515245 : Int32)) + (12345 : Int32))) (cw k 1) 8) / (10 : Int32) * (10 : Int32)) ≤ 0
  · replace h := ite_t h hc
    refine R_ifle_t rfl hc ?_
    refine R_iconst (p := 51) rfl ki_0 rfl ?_
    obtain rfl := Option.some.inj h
    exact R_zreturn rfl rfl (by decide) hq
  · replace h := ite_f h hc
    refine R_ifle_f (p := 27) rfl hc rfl ?_
    refine R_aload_n (p := 28) rfl (jg_ne l0 rfl) rfl ?_
    refine R_getI (p := 31) hK rfl (s_w1 hk) rfl rfl ?_
    refine R_bipush (p := 33) rfl kb_8 rfl ?_
    refine R_iushr (p := 34) rfl rfl ?_
    refine R_iload_n (p := 35) rfl jg_self rfl ?_
    obtain ⟨b1, h⟩ := gd h
    refine R_irem (p := 36) rfl b1 rfl ?_
    refine R_aload_n (p := 37) rfl (jg_ne l0 rfl) rfl ?_
    refine R_getI (p := 40) hK rfl (s_w1 hk) rfl rfl ?_
    refine R_bipush (p := 42) rfl kb_10 rfl ?_
    refine R_idiv (p := 43) rfl (by decide) rfl ?_
    by_cases hc : (((mput m (cw k 1) 9 (((m (cw k 1) 9) * (1103515245 : Int32)) + (12345 : Int32))) (cw k 1) 8) / (10 : Int32)) ≤ ((jUshr ((mput m (cw k 1) 9 (((m (cw k 1) 9) * (1103515245 : Int32)) + (12345 : Int32))) (cw k 1) 9) (8 : Int32)) - (jUshr ((mput m (cw k 1) 9 (((m (cw k 1) 9) * (1103515245 : Int32)) + (12345 : Int32))) (cw k 1) 9) (8 : Int32)) / (((mput m (cw k 1) 9 (((m (cw k 1) 9) * (1103515245 : Int32)) + (12345 : Int32))) (cw k 1) 8) - ((mput m (cw k 1) 9 (((m (cw k 1) 9) * (1103515245 : Int32)) + (12345 : Int32))) (cw k 1) 8) / (10 : Int32) * (10 : Int32)) * (((mput m (cw k 1) 9 (((m (cw k 1) 9) * (1103515245 : Int32)) + (12345 : Int32))) (cw k 1) 8) - ((mput m (cw k 1) 9 (((m (cw k 1) 9) * (1103515245 : Int32)) + (12345 : Int32))) (cw k 1) 8) / (10 : Int32) * (10 : Int32)))
    · replace h := ite_t h hc
      refine R_icge_t rfl hc ?_
      refine R_iconst (p := 51) rfl ki_0 rfl ?_
      obtain rfl := Option.some.inj h
      exact R_zreturn rfl rfl (by decide) hq
    · replace h := ite_f h hc
      refine R_icge_f (p := 46) rfl hc rfl ?_
      refine R_iconst (p := 47) rfl ki_1 rfl ?_
      refine R_goto rfl ?_
      obtain rfl := Option.some.inj h
      exact R_zreturn rfl rfl (by decide) hq
theorem tfX7_drawn {xs : List Int32} {d : Nat} {K : Mem → List jE} (hK : Ctx shC K) (hd : 1 ≤ d) {k : Nat} (hk : k < 3) {m : Mem} {t : (Int32 × Mem)} (h : fX7_drawn k m = some t) : CallD (jcs xs) d 98 [.ref (cw k 1)] (K m) (some (.int t.1), K t.2) := by
  obtain ⟨d, rfl⟩ : ∃ z, d = z + 1 := ⟨d - 1, by omega⟩
  refine CallD_of jmt_X7_drawn rfl ⟨rfl, Nat.le_of_ble_eq_true rfl⟩ ?_
  exact ufX7_drawn hK (Nat.le_of_succ_le_succ hd) hk rfl h rfl
noncomputable def lX7_burstDry_12 (k : Nat) (x1 : Int32) (s : Int32 × Mem) : Option ((Int32 × Mem) ⊕ ((Int32 × Mem) ⊕ Mem)) := (if (16 : Int32) ≤ s.1 then some (.inr (.inl ((x1 + (1 : Int32)), s.2))) else (fX0_isWall k x1 s.1 s.2).bind fun q1 => (if q1 = 0 then some (.inl ((s.1 + (1 : Int32)), s.2)) else (fX7_burstOf k x1 s.1 s.2).bind fun q2 => (if q2.1 = 0 then some (.inl ((s.1 + (1 : Int32)), q2.2)) else (fX7_drawn k q2.2).bind fun q3 => (if q3.1 = 0 then some (.inl ((s.1 + (1 : Int32)), q3.2)) else (fX0_canBurst k x1 s.1 q3.2).bind fun q4 => (if q4 = 0 then some (.inl ((s.1 + (1 : Int32)), q3.2)) else (fX0_unite k x1 s.1 q3.2).bind fun q5 => some (.inl ((s.1 + (1 : Int32)), q5)))))))
noncomputable def gX7_burstDry_12 (xs : List Int32) (d : Nat) (r : jR) (K : Mem → List jE) (k : Nat) (x1 : Int32) (s : Int32 × Mem) : Prop := ∀ L, jget L 0 = some (.ref (cw k 1)) → jget L 1 = some (.int x1) → jget L 2 = some (.int s.1) → RunD (jcs xs) d 3 (none) jt_X7_burstDry (12, L, [], (K s.2)) r
noncomputable def lX7_burstDry_2 (k : Nat) (s : Int32 × Mem) : Option ((Int32 × Mem) ⊕ Mem) := (if (16 : Int32) ≤ s.1 then some (.inr s.2) else lp (lX7_burstDry_12 k s.1) fu ((s.1 + (1 : Int32)), s.2))
noncomputable def gX7_burstDry_2 (xs : List Int32) (d : Nat) (r : jR) (K : Mem → List jE) (k : Nat) (s : Int32 × Mem) : Prop := ∀ L, jget L 0 = some (.ref (cw k 1)) → jget L 1 = some (.int s.1) → RunD (jcs xs) d 3 (none) jt_X7_burstDry (2, L, [], (K s.2)) r
noncomputable def fX7_burstDry (k : Nat) (m : Mem) : Option Mem := lp (lX7_burstDry_2 k) fu ((0 : Int32), m)
theorem BX7_burstDry_12 {xs : List Int32} {d : Nat} {r : jR} {K : Mem → List jE} (hK : Ctx shC K) (hd : 4 ≤ d) {k : Nat} (hk : k < 3)  {x1 : Int32} (s : Int32 × Mem) {t : (Int32 × Mem) ⊕ ((Int32 × Mem) ⊕ Mem)} (h : lX7_burstDry_12 k x1 s = some t) (hq : sQ (gX7_burstDry_12 xs d r K k x1) (sQ (gX7_burstDry_2 xs d r K k) (qM r K)) t) : gX7_burstDry_12 xs d r K k x1 s := by
  intro L l0 l1 l2
  unfold lX7_burstDry_12 at h
  refine R_iload_n (p := 13) rfl l2 rfl ?_
  refine R_bipush (p := 15) rfl kb_16 rfl ?_
  by_cases hc : (16 : Int32) ≤ s.1
  · replace h := ite_t h hc
    refine R_icge_t rfl hc ?_
    refine R_iinc (p := 76) rfl l1 rfl ki_1 rfl ?_
    refine R_goto rfl ?_
    obtain rfl := Option.some.inj h
    exact hq _ (jg_ne l0 rfl) jg_self
  · replace h := ite_f h hc
    refine R_icge_f (p := 18) rfl hc rfl ?_
    refine R_aload_n (p := 19) rfl l0 rfl ?_
    refine R_getR (p := 22) (q := (cw k 2)) hK rfl (s_w1 hk) rfl rfl ?_
    refine R_iload_n (p := 23) rfl l1 rfl ?_
    refine R_iload_n (p := 24) rfl l2 rfl ?_
    obtain ⟨q1, eq1, h⟩ := bind_some h
    refine R_cV3v (p := 27) hK rfl (s_w2 hk) (tfX0_isWall hK (Nat.le_trans (by decide) hd) hk eq1) rfl rfl ?_
    by_cases hc : q1 = 0
    · replace h := ite_t h hc
      refine R_ifeq_t rfl hc ?_
      refine R_iinc (p := 70) rfl l2 rfl ki_1 rfl ?_
      refine R_goto rfl ?_
      obtain rfl := Option.some.inj h
      exact hq _ (jg_ne l0 rfl) (jg_ne l1 rfl) jg_self
    · replace h := ite_f h hc
      refine R_ifeq_f (p := 30) rfl hc rfl ?_
      refine R_aload_n (p := 31) rfl l0 rfl ?_
      refine R_iload_n (p := 32) rfl l1 rfl ?_
      refine R_iload_n (p := 33) rfl l2 rfl ?_
      obtain ⟨q2, eq2, h⟩ := bind_some h
      refine R_cV3v (p := 36) hK rfl (s_w1 hk) (tfX7_burstOf hK (Nat.le_trans (by decide) hd) hk eq2) rfl rfl ?_
      by_cases hc : q2.1 = 0
      · replace h := ite_t h hc
        refine R_ifeq_t rfl hc ?_
        refine R_iinc (p := 70) rfl l2 rfl ki_1 rfl ?_
        refine R_goto rfl ?_
        obtain rfl := Option.some.inj h
        exact hq _ (jg_ne l0 rfl) (jg_ne l1 rfl) jg_self
      · replace h := ite_f h hc
        refine R_ifeq_f (p := 39) rfl hc rfl ?_
        refine R_aload_n (p := 40) rfl l0 rfl ?_
        obtain ⟨q3, eq3, h⟩ := bind_some h
        refine R_cV1v (p := 43) hK rfl (s_w1 hk) (tfX7_drawn hK (Nat.le_trans (by decide) hd) hk eq3) rfl rfl ?_
        by_cases hc : q3.1 = 0
        · replace h := ite_t h hc
          refine R_ifeq_t rfl hc ?_
          refine R_iinc (p := 70) rfl l2 rfl ki_1 rfl ?_
          refine R_goto rfl ?_
          obtain rfl := Option.some.inj h
          exact hq _ (jg_ne l0 rfl) (jg_ne l1 rfl) jg_self
        · replace h := ite_f h hc
          refine R_ifeq_f (p := 46) rfl hc rfl ?_
          refine R_aload_n (p := 47) rfl l0 rfl ?_
          refine R_getR (p := 50) (q := (cw k 2)) hK rfl (s_w1 hk) rfl rfl ?_
          refine R_iload_n (p := 51) rfl l1 rfl ?_
          refine R_iload_n (p := 52) rfl l2 rfl ?_
          obtain ⟨q4, eq4, h⟩ := bind_some h
          refine R_cV3v (p := 55) hK rfl (s_w2 hk) (tfX0_canBurst hK (Nat.le_trans (by decide) hd) hk eq4) rfl rfl ?_
          by_cases hc : q4 = 0
          · replace h := ite_t h hc
            refine R_ifeq_t rfl hc ?_
            refine R_iinc (p := 70) rfl l2 rfl ki_1 rfl ?_
            refine R_goto rfl ?_
            obtain rfl := Option.some.inj h
            exact hq _ (jg_ne l0 rfl) (jg_ne l1 rfl) jg_self
          · replace h := ite_f h hc
            refine R_ifeq_f (p := 58) rfl hc rfl ?_
            refine R_aload_n (p := 59) rfl l0 rfl ?_
            refine R_getR (p := 62) (q := (cw k 2)) hK rfl (s_w1 hk) rfl rfl ?_
            refine R_iload_n (p := 63) rfl l1 rfl ?_
            refine R_iload_n (p := 64) rfl l2 rfl ?_
            obtain ⟨q5, eq5, h⟩ := bind_some h
            refine R_cV3n (p := 67) hK rfl (s_w2 hk) (tfX0_unite hK (Nat.le_trans (by decide) hd) hk eq5) rfl rfl ?_
            refine R_iinc (p := 70) rfl l2 rfl ki_1 rfl ?_
            refine R_goto rfl ?_
            obtain rfl := Option.some.inj h
            exact hq _ (jg_ne l0 rfl) (jg_ne l1 rfl) jg_self
theorem LX7_burstDry_12 {xs : List Int32} {d : Nat} {r : jR} {K : Mem → List jE} (hK : Ctx shC K) (hd : 4 ≤ d) {k : Nat} (hk : k < 3)  {x1 : Int32} (n : Nat) (s : Int32 × Mem) {t : ((Int32 × Mem) ⊕ Mem)} (h : lp (lX7_burstDry_12 k x1) n s = some t) (hq : (sQ (gX7_burstDry_2 xs d r K k) (qM r K)) t) : gX7_burstDry_12 xs d r K k x1 s := lp_ind (G := gX7_burstDry_12 xs d r K k x1) (Qe := (sQ (gX7_burstDry_2 xs d r K k) (qM r K))) (fun s t h hq => BX7_burstDry_12 hK hd hk s h hq) n s t h hq
theorem BX7_burstDry_2 {xs : List Int32} {d : Nat} {r : jR} {K : Mem → List jE} (hK : Ctx shC K) (hd : 4 ≤ d) {k : Nat} (hk : k < 3)  (s : Int32 × Mem) {t : (Int32 × Mem) ⊕ Mem} (h : lX7_burstDry_2 k s = some t) (hq : sQ (gX7_burstDry_2 xs d r K k) (qM r K) t) : gX7_burstDry_2 xs d r K k s := by
  intro L l0 l1
  unfold lX7_burstDry_2 at h
  refine R_iload_n (p := 3) rfl l1 rfl ?_
  refine R_bipush (p := 5) rfl kb_16 rfl ?_
  by_cases hc : (16 : Int32) ≤ s.1
  · replace h := ite_t h hc
    refine R_icge_t rfl hc ?_
    obtain rfl := Option.some.inj h
    exact R_return rfl rfl hq
  · replace h := ite_f h hc
    refine R_icge_f (p := 8) rfl hc rfl ?_
    refine R_iload_n (p := 9) rfl l1 rfl ?_
    refine R_iconst (p := 10) rfl ki_1 rfl ?_
    refine R_iadd (p := 11) rfl rfl ?_
    refine R_istore_n (p := 12) rfl rfl rfl ?_
    exact LX7_burstDry_12 hK hd hk _ _ h hq _ (jg_ne l0 rfl) (jg_ne l1 rfl) jg_self
theorem LX7_burstDry_2 {xs : List Int32} {d : Nat} {r : jR} {K : Mem → List jE} (hK : Ctx shC K) (hd : 4 ≤ d) {k : Nat} (hk : k < 3)  (n : Nat) (s : Int32 × Mem) {t : Mem} (h : lp (lX7_burstDry_2 k) n s = some t) (hq : (qM r K) t) : gX7_burstDry_2 xs d r K k s := lp_ind (G := gX7_burstDry_2 xs d r K k) (Qe := (qM r K)) (fun s t h hq => BX7_burstDry_2 hK hd hk s h hq) n s t h hq
theorem ufX7_burstDry {xs : List Int32} {d : Nat} {r : jR} {K : Mem → List jE} (hK : Ctx shC K) (hd : 4 ≤ d) {k : Nat} (hk : k < 3) {m : Mem} {L : List (Nat × Value)} (l0 : jget L 0 = some (.ref (cw k 1))) {t : Mem} (h : fX7_burstDry k m = some t) (hq : (qM r K) t) : RunD (jcs xs) d 3 (none) jt_X7_burstDry (0, L, [], (K m)) r := by
  unfold fX7_burstDry at h
  refine R_iconst (p := 1) rfl ki_0 rfl ?_
  refine R_istore_n (p := 2) rfl rfl rfl ?_
  exact LX7_burstDry_2 hK hd hk _ _ h hq _ (jg_ne l0 rfl) jg_self
theorem tfX7_burstDry {xs : List Int32} {d : Nat} {K : Mem → List jE} (hK : Ctx shC K) (hd : 5 ≤ d) {k : Nat} (hk : k < 3) {m : Mem} {t : Mem} (h : fX7_burstDry k m = some t) : CallD (jcs xs) d 97 [.ref (cw k 1)] (K m) (none, K t) := by
  obtain ⟨d, rfl⟩ : ∃ z, d = z + 1 := ⟨d - 1, by omega⟩
  refine CallD_of jmt_X7_burstDry rfl ⟨rfl, Nat.le_of_ble_eq_true rfl⟩ ?_
  exact ufX7_burstDry hK (Nat.le_of_succ_le_succ hd) hk rfl h rfl
noncomputable def lX7_turnFirst_11 (k : Nat) (x1 : Int32) (x2 : Int32) (m : Mem) (s : Int32) : Option ((Int32) ⊕ Mem) := (if x2 ≤ s then some (.inr m) else (fX0_toldAt k x1 s m).bind fun q2 => (fX0_canTurn k x1 q2 m).bind fun q3 => (if q3 = 0 then some (.inl (s + (1 : Int32))) else (fX0_turnOver k x1 q2 m).bind fun q4 => some (.inr q4)))
noncomputable def gX7_turnFirst_11 (xs : List Int32) (d : Nat) (r : jR) (K : Mem → List jE) (k : Nat) (x1 : Int32) (x2 : Int32) (m : Mem) (s : Int32) : Prop := ∀ L, jget L 0 = some (.ref (cw k 1)) → jget L 1 = some (.int x1) → jget L 2 = some (.int x2) → jget L 3 = some (.int s) → RunD (jcs xs) d 5 (none) jt_X7_turnFirst (11, L, [], (K m)) r
noncomputable def fX7_turnFirst (k : Nat) (x1 : Int32) (m : Mem) : Option Mem := (fX0_sidesOf k x1 m).bind fun q1 => lp (lX7_turnFirst_11 k x1 q1 m) fu (0 : Int32)
theorem BX7_turnFirst_11 {xs : List Int32} {d : Nat} {r : jR} {K : Mem → List jE} (hK : Ctx shC K) (hd : 4 ≤ d) {k : Nat} (hk : k < 3)  {x1 : Int32} {x2 : Int32} {m : Mem} (s : Int32) {t : (Int32) ⊕ Mem} (h : lX7_turnFirst_11 k x1 x2 m s = some t) (hq : sQ (gX7_turnFirst_11 xs d r K k x1 x2 m) (qM r K) t) : gX7_turnFirst_11 xs d r K k x1 x2 m s := by
  intro L l0 l1 l2 l3
  unfold lX7_turnFirst_11 at h
  refine R_iload_n (p := 12) rfl l3 rfl ?_
  refine R_iload_n (p := 13) rfl l2 rfl ?_
  by_cases hc : x2 ≤ s
  · replace h := ite_t h hc
    refine R_icge_t rfl hc ?_
    obtain rfl := Option.some.inj h
    exact R_return rfl rfl hq
  · replace h := ite_f h hc
    refine R_icge_f (p := 16) rfl hc rfl ?_
    refine R_aload_n (p := 17) rfl l0 rfl ?_
    refine R_getR (p := 20) (q := (cw k 2)) hK rfl (s_w1 hk) rfl rfl ?_
    refine R_iload_n (p := 21) rfl l1 rfl ?_
    refine R_iload_n (p := 22) rfl l3 rfl ?_
    obtain ⟨q2, eq2, h⟩ := bind_some h
    refine R_cV3v (p := 25) hK rfl (s_w2 hk) (tfX0_toldAt hK (Nat.le_trans (by decide) hd) hk eq2) rfl rfl ?_
    refine R_istore (p := 27) rfl rfl rfl ?_
    refine R_aload_n (p := 28) rfl (jg_ne l0 rfl) rfl ?_
    refine R_getR (p := 31) (q := (cw k 2)) hK rfl (s_w1 hk) rfl rfl ?_
    refine R_iload_n (p := 32) rfl (jg_ne l1 rfl) rfl ?_
    refine R_iload (p := 34) rfl jg_self rfl ?_
    obtain ⟨q3, eq3, h⟩ := bind_some h
    refine R_cV3v (p := 37) hK rfl (s_w2 hk) (tfX0_canTurn hK (Nat.le_trans (by decide) hd) hk eq3) rfl rfl ?_
    by_cases hc : q3 = 0
    · replace h := ite_t h hc
      refine R_ifeq_t rfl hc ?_
      refine R_iinc (p := 54) rfl (jg_ne l3 rfl) rfl ki_1 rfl ?_
      refine R_goto rfl ?_
      obtain rfl := Option.some.inj h
      exact hq _ (jg_ne (jg_ne l0 rfl) rfl) (jg_ne (jg_ne l1 rfl) rfl) (jg_ne (jg_ne l2 rfl) rfl) jg_self
    · replace h := ite_f h hc
      refine R_ifeq_f (p := 40) rfl hc rfl ?_
      refine R_aload_n (p := 41) rfl (jg_ne l0 rfl) rfl ?_
      refine R_getR (p := 44) (q := (cw k 2)) hK rfl (s_w1 hk) rfl rfl ?_
      refine R_iload_n (p := 45) rfl (jg_ne l1 rfl) rfl ?_
      refine R_iload (p := 47) rfl jg_self rfl ?_
      obtain ⟨q4, eq4, h⟩ := bind_some h
      refine R_cV3n (p := 50) hK rfl (s_w2 hk) (tfX0_turnOver hK (Nat.le_trans (by decide) hd) hk eq4) rfl rfl ?_
      obtain rfl := Option.some.inj h
      exact R_return rfl rfl hq
theorem LX7_turnFirst_11 {xs : List Int32} {d : Nat} {r : jR} {K : Mem → List jE} (hK : Ctx shC K) (hd : 4 ≤ d) {k : Nat} (hk : k < 3)  {x1 : Int32} {x2 : Int32} {m : Mem} (n : Nat) (s : Int32) {t : Mem} (h : lp (lX7_turnFirst_11 k x1 x2 m) n s = some t) (hq : (qM r K) t) : gX7_turnFirst_11 xs d r K k x1 x2 m s := lp_ind (G := gX7_turnFirst_11 xs d r K k x1 x2 m) (Qe := (qM r K)) (fun s t h hq => BX7_turnFirst_11 hK hd hk s h hq) n s t h hq
theorem ufX7_turnFirst {xs : List Int32} {d : Nat} {r : jR} {K : Mem → List jE} (hK : Ctx shC K) (hd : 4 ≤ d) {k : Nat} (hk : k < 3) {x1 : Int32} {m : Mem} {L : List (Nat × Value)} (l0 : jget L 0 = some (.ref (cw k 1))) (l1 : jget L 1 = some (.int x1)) {t : Mem} (h : fX7_turnFirst k x1 m = some t) (hq : (qM r K) t) : RunD (jcs xs) d 5 (none) jt_X7_turnFirst (0, L, [], (K m)) r := by
  unfold fX7_turnFirst at h
  refine R_aload_n (p := 1) rfl l0 rfl ?_
  refine R_getR (p := 4) (q := (cw k 2)) hK rfl (s_w1 hk) rfl rfl ?_
  refine R_iload_n (p := 5) rfl l1 rfl ?_
  obtain ⟨q1, eq1, h⟩ := bind_some h
  refine R_cV2v (p := 8) hK rfl (s_w2 hk) (tfX0_sidesOf hK (Nat.le_trans (by decide) hd) hk eq1) rfl rfl ?_
  refine R_istore_n (p := 9) rfl rfl rfl ?_
  refine R_iconst (p := 10) rfl ki_0 rfl ?_
  refine R_istore_n (p := 11) rfl rfl rfl ?_
  exact LX7_turnFirst_11 hK hd hk _ _ h hq _ (jg_ne (jg_ne l0 rfl) rfl) (jg_ne (jg_ne l1 rfl) rfl) (jg_ne jg_self rfl) jg_self
theorem tfX7_turnFirst {xs : List Int32} {d : Nat} {K : Mem → List jE} (hK : Ctx shC K) (hd : 5 ≤ d) {k : Nat} (hk : k < 3) {x1 : Int32} {m : Mem} {t : Mem} (h : fX7_turnFirst k x1 m = some t) : CallD (jcs xs) d 100 [.ref (cw k 1), .int x1] (K m) (none, K t) := by
  obtain ⟨d, rfl⟩ : ∃ z, d = z + 1 := ⟨d - 1, by omega⟩
  refine CallD_of jmt_X7_turnFirst rfl ⟨rfl, Nat.le_of_ble_eq_true rfl⟩ ?_
  exact ufX7_turnFirst hK (Nat.le_of_succ_le_succ hd) hk rfl rfl h rfl
noncomputable def lX7_loseEmpty_2 (k : Nat) (s : Int32 × Mem) : Option ((Int32 × Mem) ⊕ Mem) := (if (16 : Int32) ≤ s.1 then some (.inr s.2) else (if (fX0_has k s.1 s.2) = 0 then some (.inl ((s.1 + (1 : Int32)), s.2)) else (if inb s.1 16 then (if (s.2 (cw k 4) s.1.toNatClampNeg) = 0 then (fX0_canVanish k s.1 s.2).bind fun q3 => (if q3 = 0 then (if inb s.1 16 then (if (s.2 (cw k 7) s.1.toNatClampNeg) ≤ (3 : Int32) then some (.inl ((s.1 + (1 : Int32)), s.2)) else (fX7_turnFirst k s.1 s.2).bind fun q5 => some (.inl ((s.1 + (1 : Int32)), q5))) else none) else (fX0_lose k s.1 s.2).bind fun q6 => some (.inl ((s.1 + (1 : Int32)), q6))) else some (.inl ((s.1 + (1 : Int32)), s.2))) else none)))
noncomputable def gX7_loseEmpty_2 (xs : List Int32) (d : Nat) (r : jR) (K : Mem → List jE) (k : Nat) (s : Int32 × Mem) : Prop := ∀ L, jget L 0 = some (.ref (cw k 1)) → jget L 1 = some (.int s.1) → RunD (jcs xs) d 2 (none) jt_X7_loseEmpty (2, L, [], (K s.2)) r
noncomputable def fX7_loseEmpty (k : Nat) (m : Mem) : Option Mem := lp (lX7_loseEmpty_2 k) fu ((0 : Int32), m)
theorem BX7_loseEmpty_2 {xs : List Int32} {d : Nat} {r : jR} {K : Mem → List jE} (hK : Ctx shC K) (hd : 5 ≤ d) {k : Nat} (hk : k < 3)  (s : Int32 × Mem) {t : (Int32 × Mem) ⊕ Mem} (h : lX7_loseEmpty_2 k s = some t) (hq : sQ (gX7_loseEmpty_2 xs d r K k) (qM r K) t) : gX7_loseEmpty_2 xs d r K k s := by
  intro L l0 l1
  unfold lX7_loseEmpty_2 at h
  refine R_iload_n (p := 3) rfl l1 rfl ?_
  refine R_bipush (p := 5) rfl kb_16 rfl ?_
  by_cases hc : (16 : Int32) ≤ s.1
  · replace h := ite_t h hc
    refine R_icge_t rfl hc ?_
    obtain rfl := Option.some.inj h
    exact R_return rfl rfl hq
  · replace h := ite_f h hc
    refine R_icge_f (p := 8) rfl hc rfl ?_
    refine R_aload_n (p := 9) rfl l0 rfl ?_
    refine R_getR (p := 12) (q := (cw k 2)) hK rfl (s_w1 hk) rfl rfl ?_
    refine R_iload_n (p := 13) rfl l1 rfl ?_
    refine R_cV2v (p := 16) hK rfl (s_w2 hk) (tfX0_has hK (Nat.le_trans (by decide) hd) hk) rfl rfl ?_
    by_cases hc : (fX0_has k s.1 s.2) = 0
    · replace h := ite_t h hc
      refine R_ifeq_t rfl hc ?_
      refine R_iinc (p := 74) rfl l1 rfl ki_1 rfl ?_
      refine R_goto rfl ?_
      obtain rfl := Option.some.inj h
      exact hq _ (jg_ne l0 rfl) jg_self
    · replace h := ite_f h hc
      refine R_ifeq_f (p := 19) rfl hc rfl ?_
      refine R_aload_n (p := 20) rfl l0 rfl ?_
      refine R_getR (p := 23) (q := (cw k 2)) hK rfl (s_w1 hk) rfl rfl ?_
      refine R_getR (p := 26) (q := (cw k 4)) hK rfl (s_w2 hk) rfl rfl ?_
      refine R_iload_n (p := 27) rfl l1 rfl ?_
      obtain ⟨b2, h⟩ := gd h
      refine R_iald (p := 28) hK rfl (s_w4 hk) b2 rfl ?_
      by_cases hc : (s.2 (cw k 4) s.1.toNatClampNeg) = 0
      · replace h := ite_t h hc
        refine R_ifne_f (p := 31) rfl (fun z => z hc) rfl ?_
        refine R_aload_n (p := 32) rfl l0 rfl ?_
        refine R_getR (p := 35) (q := (cw k 2)) hK rfl (s_w1 hk) rfl rfl ?_
        refine R_iload_n (p := 36) rfl l1 rfl ?_
        obtain ⟨q3, eq3, h⟩ := bind_some h
        refine R_cV2v (p := 39) hK rfl (s_w2 hk) (tfX0_canVanish hK (Nat.le_trans (by decide) hd) hk eq3) rfl rfl ?_
        by_cases hc : q3 = 0
        · replace h := ite_t h hc
          refine R_ifeq_t rfl hc ?_
          refine R_aload_n (p := 54) rfl l0 rfl ?_
          refine R_getR (p := 57) (q := (cw k 2)) hK rfl (s_w1 hk) rfl rfl ?_
          refine R_getR (p := 60) (q := (cw k 7)) hK rfl (s_w2 hk) rfl rfl ?_
          refine R_iload_n (p := 61) rfl l1 rfl ?_
          obtain ⟨b4, h⟩ := gd h
          refine R_iald (p := 62) hK rfl (s_w7 hk) b4 rfl ?_
          refine R_iconst (p := 63) rfl ki_3 rfl ?_
          by_cases hc : (s.2 (cw k 7) s.1.toNatClampNeg) ≤ (3 : Int32)
          · replace h := ite_t h hc
            refine R_icle_t rfl hc ?_
            refine R_iinc (p := 74) rfl l1 rfl ki_1 rfl ?_
            refine R_goto rfl ?_
            obtain rfl := Option.some.inj h
            exact hq _ (jg_ne l0 rfl) jg_self
          · replace h := ite_f h hc
            refine R_icle_f (p := 66) rfl hc rfl ?_
            refine R_aload_n (p := 67) rfl l0 rfl ?_
            refine R_iload_n (p := 68) rfl l1 rfl ?_
            obtain ⟨q5, eq5, h⟩ := bind_some h
            refine R_cV2n (p := 71) hK rfl (s_w1 hk) (tfX7_turnFirst hK (Nat.le_trans (by decide) hd) hk eq5) rfl rfl ?_
            refine R_iinc (p := 74) rfl l1 rfl ki_1 rfl ?_
            refine R_goto rfl ?_
            obtain rfl := Option.some.inj h
            exact hq _ (jg_ne l0 rfl) jg_self
        · replace h := ite_f h hc
          refine R_ifeq_f (p := 42) rfl hc rfl ?_
          refine R_aload_n (p := 43) rfl l0 rfl ?_
          refine R_getR (p := 46) (q := (cw k 2)) hK rfl (s_w1 hk) rfl rfl ?_
          refine R_iload_n (p := 47) rfl l1 rfl ?_
          obtain ⟨q6, eq6, h⟩ := bind_some h
          refine R_cV2n (p := 50) hK rfl (s_w2 hk) (tfX0_lose hK (Nat.le_trans (by decide) hd) hk eq6) rfl rfl ?_
          refine R_goto rfl ?_
          refine R_iinc (p := 74) rfl l1 rfl ki_1 rfl ?_
          refine R_goto rfl ?_
          obtain rfl := Option.some.inj h
          exact hq _ (jg_ne l0 rfl) jg_self
      · replace h := ite_f h hc
        refine R_ifne_t rfl hc ?_
        refine R_iinc (p := 74) rfl l1 rfl ki_1 rfl ?_
        refine R_goto rfl ?_
        obtain rfl := Option.some.inj h
        exact hq _ (jg_ne l0 rfl) jg_self
theorem LX7_loseEmpty_2 {xs : List Int32} {d : Nat} {r : jR} {K : Mem → List jE} (hK : Ctx shC K) (hd : 5 ≤ d) {k : Nat} (hk : k < 3)  (n : Nat) (s : Int32 × Mem) {t : Mem} (h : lp (lX7_loseEmpty_2 k) n s = some t) (hq : (qM r K) t) : gX7_loseEmpty_2 xs d r K k s := lp_ind (G := gX7_loseEmpty_2 xs d r K k) (Qe := (qM r K)) (fun s t h hq => BX7_loseEmpty_2 hK hd hk s h hq) n s t h hq
theorem ufX7_loseEmpty {xs : List Int32} {d : Nat} {r : jR} {K : Mem → List jE} (hK : Ctx shC K) (hd : 5 ≤ d) {k : Nat} (hk : k < 3) {m : Mem} {L : List (Nat × Value)} (l0 : jget L 0 = some (.ref (cw k 1))) {t : Mem} (h : fX7_loseEmpty k m = some t) (hq : (qM r K) t) : RunD (jcs xs) d 2 (none) jt_X7_loseEmpty (0, L, [], (K m)) r := by
  unfold fX7_loseEmpty at h
  refine R_iconst (p := 1) rfl ki_0 rfl ?_
  refine R_istore_n (p := 2) rfl rfl rfl ?_
  exact LX7_loseEmpty_2 hK hd hk _ _ h hq _ (jg_ne l0 rfl) jg_self
theorem tfX7_loseEmpty {xs : List Int32} {d : Nat} {K : Mem → List jE} (hK : Ctx shC K) (hd : 6 ≤ d) {k : Nat} (hk : k < 3) {m : Mem} {t : Mem} (h : fX7_loseEmpty k m = some t) : CallD (jcs xs) d 99 [.ref (cw k 1)] (K m) (none, K t) := by
  obtain ⟨d, rfl⟩ : ∃ z, d = z + 1 := ⟨d - 1, by omega⟩
  refine CallD_of jmt_X7_loseEmpty rfl ⟨rfl, Nat.le_of_ble_eq_true rfl⟩ ?_
  exact ufX7_loseEmpty hK (Nat.le_of_succ_le_succ hd) hk rfl h rfl
noncomputable def fX7_goOn (k : Nat) (m : Mem) : Option Mem := (fX7_passGas k m).bind fun q1 => (fX7_runDown k q1).bind fun q2 => (fX7_burstDry k q2).bind fun q3 => (fX7_loseEmpty k q3).bind fun q4 => some (mput q4 (cw k 1) 10 (fJ9_min_7cf53 (9999 : Int32) ((q4 (cw k 1) 10) + (1 : Int32))))
theorem ufX7_goOn {xs : List Int32} {d : Nat} {r : jR} {K : Mem → List jE} (hK : Ctx shC K) (hd : 6 ≤ d) {k : Nat} (hk : k < 3) {m : Mem} {L : List (Nat × Value)} (l0 : jget L 0 = some (.ref (cw k 1))) {t : Mem} (h : fX7_goOn k m = some t) (hq : (qM r K) t) : RunD (jcs xs) d 1 (none) jt_X7_goOn (0, L, [], (K m)) r := by
  unfold fX7_goOn at h
  refine R_aload_n (p := 1) rfl l0 rfl ?_
  obtain ⟨q1, eq1, h⟩ := bind_some h
  refine R_cV1n (p := 4) hK rfl (s_w1 hk) (tfX7_passGas hK (Nat.le_trans (by decide) hd) hk eq1) rfl rfl ?_
  refine R_aload_n (p := 5) rfl l0 rfl ?_
  obtain ⟨q2, eq2, h⟩ := bind_some h
  refine R_cV1n (p := 8) hK rfl (s_w1 hk) (tfX7_runDown hK (Nat.le_trans (by decide) hd) hk eq2) rfl rfl ?_
  refine R_aload_n (p := 9) rfl l0 rfl ?_
  obtain ⟨q3, eq3, h⟩ := bind_some h
  refine R_cV1n (p := 12) hK rfl (s_w1 hk) (tfX7_burstDry hK (Nat.le_trans (by decide) hd) hk eq3) rfl rfl ?_
  refine R_aload_n (p := 13) rfl l0 rfl ?_
  obtain ⟨q4, eq4, h⟩ := bind_some h
  refine R_cV1n (p := 16) hK rfl (s_w1 hk) (tfX7_loseEmpty hK (Nat.le_trans (by decide) hd) hk eq4) rfl rfl ?_
  refine R_aload_n (p := 17) rfl l0 rfl ?_
  refine R_sipush (p := 20) rfl ks_9999 rfl ?_
  refine R_aload_n (p := 21) rfl l0 rfl ?_
  refine R_getI (p := 24) hK rfl (s_w1 hk) rfl rfl ?_
  refine R_iconst (p := 25) rfl ki_1 rfl ?_
  refine R_iadd (p := 26) rfl rfl ?_
  refine R_cS2v (p := 29) rfl (tfJ9_min_7cf53 (Nat.le_trans (by decide) hd) ) rfl rfl ?_
  refine R_putI (p := 32) hK rfl (s_w1 hk) rfl rfl rfl ?_
  obtain rfl := Option.some.inj h
  exact R_return rfl rfl hq
theorem tfX7_goOn {xs : List Int32} {d : Nat} {K : Mem → List jE} (hK : Ctx shC K) (hd : 7 ≤ d) {k : Nat} (hk : k < 3) {m : Mem} {t : Mem} (h : fX7_goOn k m = some t) : CallD (jcs xs) d 90 [.ref (cw k 1)] (K m) (none, K t) := by
  obtain ⟨d, rfl⟩ : ∃ z, d = z + 1 := ⟨d - 1, by omega⟩
  refine CallD_of jmt_X7_goOn rfl ⟨rfl, Nat.le_of_ble_eq_true rfl⟩ ?_
  exact ufX7_goOn hK (Nat.le_of_succ_le_succ hd) hk rfl h rfl
noncomputable def lX8_tick_39 (x1 : Int32) (s : Int32 × Mem) : Option ((Int32 × Mem) ⊕ (Int32 × Mem)) := (if x1 ≤ s.1 then some (.inr ((fX0_howMany 0 s.2), s.2)) else (fX7_goOn 0 s.2).bind fun q4 => some (.inl ((s.1 + (1 : Int32)), q4)))
noncomputable def gX8_tick_39 (xs : List Int32) (d : Nat) (r : jR) (K : Mem → List jE) (x1 : Int32) (s : Int32 × Mem) : Prop := ∀ L, jget L 0 = some (.ref 0) → jget L 1 = some (.int x1) → jget L 2 = some (.int s.1) → RunD (jcs xs) d 3 (some .int) jt_X8_tick (39, L, [], (K s.2)) r
noncomputable def fX8_tick (x1 : Int32) (m : Mem) : Option (Int32 × Mem) := (if (fX8_within x1 (1 : Int32) (60 : Int32)) = 0 then (fX8_no (1 : Int32) m).bind fun q2 => some (q2.1, q2.2) else (if ((m (cw 0 1) 10) + x1) ≤ (9999 : Int32) then lp (lX8_tick_39 x1) fu ((0 : Int32), m) else (fX8_no (3 : Int32) m).bind fun q5 => some (q5.1, q5.2)))
theorem BX8_tick_39 {xs : List Int32} {d : Nat} {r : jR} {K : Mem → List jE} (hK : Ctx shC K) (hd : 7 ≤ d)  {x1 : Int32} (s : Int32 × Mem) {t : (Int32 × Mem) ⊕ (Int32 × Mem)} (h : lX8_tick_39 x1 s = some t) (hq : sQ (gX8_tick_39 xs d r K x1) (qIM r K) t) : gX8_tick_39 xs d r K x1 s := by
  intro L l0 l1 l2
  unfold lX8_tick_39 at h
  refine R_iload_n (p := 40) rfl l2 rfl ?_
  refine R_iload_n (p := 41) rfl l1 rfl ?_
  by_cases hc : x1 ≤ s.1
  · replace h := ite_t h hc
    refine R_icge_t rfl hc ?_
    refine R_aload_n (p := 58) rfl l0 rfl ?_
    refine R_getR (p := 61) (q := (cw 0 1)) hK rfl rfl rfl rfl ?_
    refine R_getR (p := 64) (q := (cw 0 2)) hK rfl (s_w1 (by decide)) rfl rfl ?_
    refine R_cV1v (p := 67) hK rfl (s_w2 (by decide)) (tfX0_howMany hK (Nat.le_trans (by decide) hd) (by decide)) rfl rfl ?_
    obtain rfl := Option.some.inj h
    exact R_ireturn rfl rfl hq
  · replace h := ite_f h hc
    refine R_icge_f (p := 44) rfl hc rfl ?_
    refine R_aload_n (p := 45) rfl l0 rfl ?_
    refine R_getR (p := 48) (q := (cw 0 1)) hK rfl rfl rfl rfl ?_
    obtain ⟨q4, eq4, h⟩ := bind_some h
    refine R_cV1n (p := 51) hK rfl (s_w1 (by decide)) (tfX7_goOn hK (Nat.le_trans (by decide) hd) (by decide) eq4) rfl rfl ?_
    refine R_iinc (p := 54) rfl l2 rfl ki_1 rfl ?_
    refine R_goto rfl ?_
    obtain rfl := Option.some.inj h
    exact hq _ (jg_ne l0 rfl) (jg_ne l1 rfl) jg_self
theorem LX8_tick_39 {xs : List Int32} {d : Nat} {r : jR} {K : Mem → List jE} (hK : Ctx shC K) (hd : 7 ≤ d)  {x1 : Int32} (n : Nat) (s : Int32 × Mem) {t : (Int32 × Mem)} (h : lp (lX8_tick_39 x1) n s = some t) (hq : (qIM r K) t) : gX8_tick_39 xs d r K x1 s := lp_ind (G := gX8_tick_39 xs d r K x1) (Qe := (qIM r K)) (fun s t h hq => BX8_tick_39 hK hd s h hq) n s t h hq
theorem ufX8_tick {xs : List Int32} {d : Nat} {r : jR} {K : Mem → List jE} (hK : Ctx shC K) (hd : 7 ≤ d) {x1 : Int32} {m : Mem} {L : List (Nat × Value)} (l0 : jget L 0 = some (.ref 0)) (l1 : jget L 1 = some (.int x1)) {t : (Int32 × Mem)} (h : fX8_tick x1 m = some t) (hq : (qIM r K) t) : RunD (jcs xs) d 3 (some .int) jt_X8_tick (0, L, [], (K m)) r := by
  unfold fX8_tick at h
  refine R_iload_n (p := 1) rfl l1 rfl ?_
  refine R_iconst (p := 2) rfl ki_1 rfl ?_
  refine R_bipush (p := 4) rfl kb_60 rfl ?_
  refine R_cS3v (p := 7) rfl (tfX8_within (Nat.le_trans (by decide) hd) ) rfl rfl ?_
  by_cases hc : (fX8_within x1 (1 : Int32) (60 : Int32)) = 0
  · replace h := ite_t h hc
    refine R_ifne_f (p := 10) rfl (fun z => z hc) rfl ?_
    refine R_aload_n (p := 11) rfl l0 rfl ?_
    refine R_iconst (p := 12) rfl ki_1 rfl ?_
    obtain ⟨q2, eq2, h⟩ := bind_some h
    refine R_cV2v (p := 15) hK rfl rfl (tfX8_no hK (Nat.le_trans (by decide) hd)  eq2) rfl rfl ?_
    obtain rfl := Option.some.inj h
    exact R_ireturn rfl rfl hq
  · replace h := ite_f h hc
    refine R_ifne_t rfl hc ?_
    refine R_aload_n (p := 17) rfl l0 rfl ?_
    refine R_getR (p := 20) (q := (cw 0 1)) hK rfl rfl rfl rfl ?_
    refine R_getI (p := 23) hK rfl (s_w1 (by decide)) rfl rfl ?_
    refine R_iload_n (p := 24) rfl l1 rfl ?_
    refine R_iadd (p := 25) rfl rfl ?_
    refine R_sipush (p := 28) rfl ks_9999 rfl ?_
    by_cases hc : ((m (cw 0 1) 10) + x1) ≤ (9999 : Int32)
    · replace h := ite_t h hc
      refine R_icle_t rfl hc ?_
      refine R_iconst (p := 38) rfl ki_0 rfl ?_
      refine R_istore_n (p := 39) rfl rfl rfl ?_
      exact LX8_tick_39 hK hd _ _ h hq _ (jg_ne l0 rfl) (jg_ne l1 rfl) jg_self
    · replace h := ite_f h hc
      refine R_icle_f (p := 31) rfl hc rfl ?_
      refine R_aload_n (p := 32) rfl l0 rfl ?_
      refine R_iconst (p := 33) rfl ki_3 rfl ?_
      obtain ⟨q5, eq5, h⟩ := bind_some h
      refine R_cV2v (p := 36) hK rfl rfl (tfX8_no hK (Nat.le_trans (by decide) hd)  eq5) rfl rfl ?_
      obtain rfl := Option.some.inj h
      exact R_ireturn rfl rfl hq
theorem tfX8_tick {xs : List Int32} {d : Nat} {K : Mem → List jE} (hK : Ctx shC K) (hd : 8 ≤ d) {x1 : Int32} {m : Mem} {t : (Int32 × Mem)} (h : fX8_tick x1 m = some t) : CallD (jcs xs) d 122 [.ref 0, .int x1] (K m) (some (.int t.1), K t.2) := by
  obtain ⟨d, rfl⟩ : ∃ z, d = z + 1 := ⟨d - 1, by omega⟩
  refine CallD_of jmt_X8_tick rfl ⟨rfl, Nat.le_of_ble_eq_true rfl⟩ ?_
  exact ufX8_tick hK (Nat.le_of_succ_le_succ hd) rfl rfl h rfl
noncomputable def fX9_gives (x1 : Int32) (x2 : Int32) (x3 : Int32) (m : Mem) : Option Mem := (fX9_of x1 (2 : Int32) m).bind fun q1 => (fX9_of x2 (2 : Int32) m).bind fun q2 => (fX9_of x1 (2 : Int32) m).bind fun q5 => (fX9_tells x1 (2 : Int32) (q5 - (fJ9_min_7cf53 x3 (fJ9_min_7cf53 q1 ((99999 : Int32) - q2)))) m).bind fun q6 => (fX9_of x2 (2 : Int32) q6).bind fun q7 => (fX9_tells x2 (2 : Int32) (q7 + (fJ9_min_7cf53 x3 (fJ9_min_7cf53 q1 ((99999 : Int32) - q2)))) q6).bind fun q8 => some q8
theorem ufX9_gives {xs : List Int32} {d : Nat} {r : jR} {K : Mem → List jE} (hK : Ctx shR K) (hd : 1 ≤ d) {x1 : Int32} {x2 : Int32} {x3 : Int32} {m : Mem} {L : List (Nat × Value)} (l0 : jget L 0 = some (.ref 137)) (l1 : jget L 1 = some (.int x1)) (l2 : jget L 2 = some (.int x2)) (l3 : jget L 3 = some (.int x3)) {t : Mem} (h : fX9_gives x1 x2 x3 m = some t) (hq : (qM r K) t) : RunD (jcs xs) d 5 (none) jt_X9_gives (0, L, [], (K m)) r := by
  unfold fX9_gives at h
  refine R_iload_n (p := 1) rfl l3 rfl ?_
  refine R_aload_n (p := 2) rfl l0 rfl ?_
  refine R_iload_n (p := 3) rfl l1 rfl ?_
  refine R_iconst (p := 4) rfl ki_2 rfl ?_
  obtain ⟨q1, eq1, h⟩ := bind_some h
  refine R_cV3v (p := 7) hK rfl rfl (tfX9_of hK (Nat.le_trans (by decide) hd)  eq1) rfl rfl ?_
  refine R_ldc (p := 9) rfl kl_99999 rfl ?_
  refine R_aload_n (p := 10) rfl l0 rfl ?_
  refine R_iload_n (p := 11) rfl l2 rfl ?_
  refine R_iconst (p := 12) rfl ki_2 rfl ?_
  obtain ⟨q2, eq2, h⟩ := bind_some h
  refine R_cV3v (p := 15) hK rfl rfl (tfX9_of hK (Nat.le_trans (by decide) hd)  eq2) rfl rfl ?_
  refine R_isub (p := 16) rfl rfl ?_
  refine R_cS2v (p := 19) rfl (tfJ9_min_7cf53 (Nat.le_trans (by decide) hd) ) rfl rfl ?_
  refine R_cS2v (p := 22) rfl (tfJ9_min_7cf53 (Nat.le_trans (by decide) hd) ) rfl rfl ?_
  refine R_istore (p := 24) rfl rfl rfl ?_
  refine R_aload_n (p := 25) rfl (jg_ne l0 rfl) rfl ?_
  refine R_iload_n (p := 26) rfl (jg_ne l1 rfl) rfl ?_
  refine R_iconst (p := 27) rfl ki_2 rfl ?_
  refine R_aload_n (p := 28) rfl (jg_ne l0 rfl) rfl ?_
  refine R_iload_n (p := 29) rfl (jg_ne l1 rfl) rfl ?_
  refine R_iconst (p := 30) rfl ki_2 rfl ?_
  obtain ⟨q5, eq5, h⟩ := bind_some h
  refine R_cV3v (p := 33) hK rfl rfl (tfX9_of hK (Nat.le_trans (by decide) hd)  eq5) rfl rfl ?_
  refine R_iload (p := 35) rfl jg_self rfl ?_
  refine R_isub (p := 36) rfl rfl ?_
  obtain ⟨q6, eq6, h⟩ := bind_some h
  refine R_cV4n (p := 39) hK rfl rfl (tfX9_tells hK (Nat.le_trans (by decide) hd)  eq6) rfl rfl ?_
  refine R_aload_n (p := 40) rfl (jg_ne l0 rfl) rfl ?_
  refine R_iload_n (p := 41) rfl (jg_ne l2 rfl) rfl ?_
  refine R_iconst (p := 42) rfl ki_2 rfl ?_
  refine R_aload_n (p := 43) rfl (jg_ne l0 rfl) rfl ?_
  refine R_iload_n (p := 44) rfl (jg_ne l2 rfl) rfl ?_
  refine R_iconst (p := 45) rfl ki_2 rfl ?_
  obtain ⟨q7, eq7, h⟩ := bind_some h
  refine R_cV3v (p := 48) hK rfl rfl (tfX9_of hK (Nat.le_trans (by decide) hd)  eq7) rfl rfl ?_
  refine R_iload (p := 50) rfl jg_self rfl ?_
  refine R_iadd (p := 51) rfl rfl ?_
  obtain ⟨q8, eq8, h⟩ := bind_some h
  refine R_cV4n (p := 54) hK rfl rfl (tfX9_tells hK (Nat.le_trans (by decide) hd)  eq8) rfl rfl ?_
  obtain rfl := Option.some.inj h
  exact R_return rfl rfl hq
theorem tfX9_gives {xs : List Int32} {d : Nat} {K : Mem → List jE} (hK : Ctx shR K) (hd : 2 ≤ d) {x1 : Int32} {x2 : Int32} {x3 : Int32} {m : Mem} {t : Mem} (h : fX9_gives x1 x2 x3 m = some t) : CallD (jcs xs) d 211 [.ref 137, .int x1, .int x2, .int x3] (K m) (none, K t) := by
  obtain ⟨d, rfl⟩ : ∃ z, d = z + 1 := ⟨d - 1, by omega⟩
  refine CallD_of jmt_X9_gives rfl ⟨rfl, Nat.le_of_ble_eq_true rfl⟩ ?_
  exact ufX9_gives hK (Nat.le_of_succ_le_succ hd) rfl rfl rfl rfl h rfl
noncomputable def bX9_passesAll_69 (x1 : Int32) (x2 : Int32) (x3 : Int32) (y1 : Int32) (y2 : Int32) (m : Mem) : Option ((Int32 × Mem) ⊕ ((Int32 × Mem) ⊕ Mem)) := (fX9_gives y1 y2 (fJ9_abs_0f7a4 x3) m).bind fun q6 => some (.inl ((x2 + (1 : Int32)), q6))
noncomputable def bX9_passesAll_60 (x1 : Int32) (x2 : Int32) (x3 : Int32) (y1 : Int32) (m : Mem) : Option ((Int32 × Mem) ⊕ ((Int32 × Mem) ⊕ Mem)) := (if 0 ≤ x3 then bX9_passesAll_69 x1 x2 x3 y1 x2 m else bX9_passesAll_69 x1 x2 x3 y1 x1 m)
noncomputable def lX9_passesAll_12 (x1 : Int32) (s : Int32 × Mem) : Option ((Int32 × Mem) ⊕ ((Int32 × Mem) ⊕ Mem)) := (if (16 : Int32) ≤ s.1 then some (.inr (.inl ((x1 + (1 : Int32)), s.2))) else (fX9_is x1 s.2).bind fun q1 => (if q1 = 0 then some (.inl ((s.1 + (1 : Int32)), s.2)) else (fX9_is s.1 s.2).bind fun q2 => (if q2 = 0 then some (.inl ((s.1 + (1 : Int32)), s.2)) else (fX9_isWall x1 s.1 s.2).bind fun q3 => (if q3 = 0 then some (.inl ((s.1 + (1 : Int32)), s.2)) else (fX9_passesBy x1 s.1 s.2).bind fun q4 => (if 0 ≤ q4.1 then bX9_passesAll_60 x1 s.1 q4.1 x1 q4.2 else bX9_passesAll_60 x1 s.1 q4.1 s.1 q4.2)))))
noncomputable def gX9_passesAll_12 (xs : List Int32) (d : Nat) (r : jR) (K : Mem → List jE) (x1 : Int32) (s : Int32 × Mem) : Prop := ∀ L, jget L 0 = some (.ref 137) → jget L 1 = some (.int x1) → jget L 2 = some (.int s.1) → RunD (jcs xs) d 4 (none) jt_X9_passesAll (12, L, [], (K s.2)) r
noncomputable def lX9_passesAll_2 (s : Int32 × Mem) : Option ((Int32 × Mem) ⊕ Mem) := (if (16 : Int32) ≤ s.1 then some (.inr s.2) else lp (lX9_passesAll_12 s.1) fu ((s.1 + (1 : Int32)), s.2))
noncomputable def gX9_passesAll_2 (xs : List Int32) (d : Nat) (r : jR) (K : Mem → List jE) (s : Int32 × Mem) : Prop := ∀ L, jget L 0 = some (.ref 137) → jget L 1 = some (.int s.1) → RunD (jcs xs) d 4 (none) jt_X9_passesAll (2, L, [], (K s.2)) r
noncomputable def fX9_passesAll (m : Mem) : Option Mem := lp (lX9_passesAll_2) fu ((0 : Int32), m)
theorem tbX9_passesAll_69 {xs : List Int32} {d : Nat} {r : jR} {K : Mem → List jE} (hK : Ctx shR K) (hd : 4 ≤ d)  {x1 : Int32} {x2 : Int32} {x3 : Int32} {y1 : Int32} {y2 : Int32} {m : Mem} {L : List (Nat × Value)} (l0 : jget L 0 = some (.ref 137)) (l1 : jget L 1 = some (.int x1)) (l2 : jget L 2 = some (.int x2)) (l3 : jget L 3 = some (.int x3)) {t : ((Int32 × Mem) ⊕ ((Int32 × Mem) ⊕ Mem))} (h : bX9_passesAll_69 x1 x2 x3 y1 y2 m = some t) (hq : (sQ (gX9_passesAll_12 xs d r K x1) (sQ (gX9_passesAll_2 xs d r K) (qM r K))) t) : RunD (jcs xs) d 4 (none) jt_X9_passesAll (69, L, [.int y2, .int y1, .ref 137], (K m)) r := by
  unfold bX9_passesAll_69 at h
  refine R_iload_n (p := 70) rfl l3 rfl ?_
  refine R_cS1v (p := 73) rfl (tfJ9_abs_0f7a4 (Nat.le_trans (by decide) hd) ) rfl rfl ?_
  obtain ⟨q6, eq6, h⟩ := bind_some h
  refine R_cV4n (p := 76) hK rfl rfl (tfX9_gives hK (Nat.le_trans (by decide) hd)  eq6) rfl rfl ?_
  refine R_iinc (p := 79) rfl l2 rfl ki_1 rfl ?_
  refine R_goto rfl ?_
  obtain rfl := Option.some.inj h
  exact hq _ (jg_ne l0 rfl) (jg_ne l1 rfl) jg_self
theorem tbX9_passesAll_60 {xs : List Int32} {d : Nat} {r : jR} {K : Mem → List jE} (hK : Ctx shR K) (hd : 4 ≤ d)  {x1 : Int32} {x2 : Int32} {x3 : Int32} {y1 : Int32} {m : Mem} {L : List (Nat × Value)} (l0 : jget L 0 = some (.ref 137)) (l1 : jget L 1 = some (.int x1)) (l2 : jget L 2 = some (.int x2)) (l3 : jget L 3 = some (.int x3)) {t : ((Int32 × Mem) ⊕ ((Int32 × Mem) ⊕ Mem))} (h : bX9_passesAll_60 x1 x2 x3 y1 m = some t) (hq : (sQ (gX9_passesAll_12 xs d r K x1) (sQ (gX9_passesAll_2 xs d r K) (qM r K))) t) : RunD (jcs xs) d 4 (none) jt_X9_passesAll (60, L, [.int y1, .ref 137], (K m)) r := by
  unfold bX9_passesAll_60 at h
  refine R_iload_n (p := 61) rfl l3 rfl ?_
  by_cases hc : 0 ≤ x3
  · replace h := ite_t h hc
    refine R_ifge_t rfl hc ?_
    refine R_iload_n (p := 69) rfl l2 rfl ?_
    exact tbX9_passesAll_69 hK hd l0 l1 l2 l3 h hq
  · replace h := ite_f h hc
    refine R_ifge_f (p := 64) rfl hc rfl ?_
    refine R_iload_n (p := 65) rfl l1 rfl ?_
    refine R_goto rfl ?_
    exact tbX9_passesAll_69 hK hd l0 l1 l2 l3 h hq
theorem BX9_passesAll_12 {xs : List Int32} {d : Nat} {r : jR} {K : Mem → List jE} (hK : Ctx shR K) (hd : 4 ≤ d)  {x1 : Int32} (s : Int32 × Mem) {t : (Int32 × Mem) ⊕ ((Int32 × Mem) ⊕ Mem)} (h : lX9_passesAll_12 x1 s = some t) (hq : sQ (gX9_passesAll_12 xs d r K x1) (sQ (gX9_passesAll_2 xs d r K) (qM r K)) t) : gX9_passesAll_12 xs d r K x1 s := by
  intro L l0 l1 l2
  unfold lX9_passesAll_12 at h
  refine R_iload_n (p := 13) rfl l2 rfl ?_
  refine R_bipush (p := 15) rfl kb_16 rfl ?_
  by_cases hc : (16 : Int32) ≤ s.1
  · replace h := ite_t h hc
    refine R_icge_t rfl hc ?_
    refine R_iinc (p := 85) rfl l1 rfl ki_1 rfl ?_
    refine R_goto rfl ?_
    obtain rfl := Option.some.inj h
    exact hq _ (jg_ne l0 rfl) jg_self
  · replace h := ite_f h hc
    refine R_icge_f (p := 18) rfl hc rfl ?_
    refine R_aload_n (p := 19) rfl l0 rfl ?_
    refine R_iload_n (p := 20) rfl l1 rfl ?_
    obtain ⟨q1, eq1, h⟩ := bind_some h
    refine R_cV2v (p := 23) hK rfl rfl (tfX9_is hK (Nat.le_trans (by decide) hd)  eq1) rfl rfl ?_
    by_cases hc : q1 = 0
    · replace h := ite_t h hc
      refine R_ifeq_t rfl hc ?_
      refine R_iinc (p := 79) rfl l2 rfl ki_1 rfl ?_
      refine R_goto rfl ?_
      obtain rfl := Option.some.inj h
      exact hq _ (jg_ne l0 rfl) (jg_ne l1 rfl) jg_self
    · replace h := ite_f h hc
      refine R_ifeq_f (p := 26) rfl hc rfl ?_
      refine R_aload_n (p := 27) rfl l0 rfl ?_
      refine R_iload_n (p := 28) rfl l2 rfl ?_
      obtain ⟨q2, eq2, h⟩ := bind_some h
      refine R_cV2v (p := 31) hK rfl rfl (tfX9_is hK (Nat.le_trans (by decide) hd)  eq2) rfl rfl ?_
      by_cases hc : q2 = 0
      · replace h := ite_t h hc
        refine R_ifeq_t rfl hc ?_
        refine R_iinc (p := 79) rfl l2 rfl ki_1 rfl ?_
        refine R_goto rfl ?_
        obtain rfl := Option.some.inj h
        exact hq _ (jg_ne l0 rfl) (jg_ne l1 rfl) jg_self
      · replace h := ite_f h hc
        refine R_ifeq_f (p := 34) rfl hc rfl ?_
        refine R_aload_n (p := 35) rfl l0 rfl ?_
        refine R_iload_n (p := 36) rfl l1 rfl ?_
        refine R_iload_n (p := 37) rfl l2 rfl ?_
        obtain ⟨q3, eq3, h⟩ := bind_some h
        refine R_cV3v (p := 40) hK rfl rfl (tfX9_isWall hK (Nat.le_trans (by decide) hd)  eq3) rfl rfl ?_
        by_cases hc : q3 = 0
        · replace h := ite_t h hc
          refine R_ifeq_t rfl hc ?_
          refine R_iinc (p := 79) rfl l2 rfl ki_1 rfl ?_
          refine R_goto rfl ?_
          obtain rfl := Option.some.inj h
          exact hq _ (jg_ne l0 rfl) (jg_ne l1 rfl) jg_self
        · replace h := ite_f h hc
          refine R_ifeq_f (p := 43) rfl hc rfl ?_
          refine R_aload_n (p := 44) rfl l0 rfl ?_
          refine R_iload_n (p := 45) rfl l1 rfl ?_
          refine R_iload_n (p := 46) rfl l2 rfl ?_
          obtain ⟨q4, eq4, h⟩ := bind_some h
          refine R_cV3v (p := 49) hK rfl rfl (tfX9_passesBy hK (Nat.le_trans (by decide) hd)  eq4) rfl rfl ?_
          refine R_istore_n (p := 50) rfl rfl rfl ?_
          refine R_aload_n (p := 51) rfl (jg_ne l0 rfl) rfl ?_
          refine R_iload_n (p := 52) rfl jg_self rfl ?_
          by_cases hc : 0 ≤ q4.1
          · replace h := ite_t h hc
            refine R_ifge_t rfl hc ?_
            refine R_iload_n (p := 60) rfl (jg_ne l1 rfl) rfl ?_
            exact tbX9_passesAll_60 hK hd (jg_ne l0 rfl) (jg_ne l1 rfl) (jg_ne l2 rfl) jg_self h hq
          · replace h := ite_f h hc
            refine R_ifge_f (p := 55) rfl hc rfl ?_
            refine R_iload_n (p := 56) rfl (jg_ne l2 rfl) rfl ?_
            refine R_goto rfl ?_
            exact tbX9_passesAll_60 hK hd (jg_ne l0 rfl) (jg_ne l1 rfl) (jg_ne l2 rfl) jg_self h hq
theorem LX9_passesAll_12 {xs : List Int32} {d : Nat} {r : jR} {K : Mem → List jE} (hK : Ctx shR K) (hd : 4 ≤ d)  {x1 : Int32} (n : Nat) (s : Int32 × Mem) {t : ((Int32 × Mem) ⊕ Mem)} (h : lp (lX9_passesAll_12 x1) n s = some t) (hq : (sQ (gX9_passesAll_2 xs d r K) (qM r K)) t) : gX9_passesAll_12 xs d r K x1 s := lp_ind (G := gX9_passesAll_12 xs d r K x1) (Qe := (sQ (gX9_passesAll_2 xs d r K) (qM r K))) (fun s t h hq => BX9_passesAll_12 hK hd s h hq) n s t h hq
theorem BX9_passesAll_2 {xs : List Int32} {d : Nat} {r : jR} {K : Mem → List jE} (hK : Ctx shR K) (hd : 4 ≤ d)  (s : Int32 × Mem) {t : (Int32 × Mem) ⊕ Mem} (h : lX9_passesAll_2 s = some t) (hq : sQ (gX9_passesAll_2 xs d r K) (qM r K) t) : gX9_passesAll_2 xs d r K s := by
  intro L l0 l1
  unfold lX9_passesAll_2 at h
  refine R_iload_n (p := 3) rfl l1 rfl ?_
  refine R_bipush (p := 5) rfl kb_16 rfl ?_
  by_cases hc : (16 : Int32) ≤ s.1
  · replace h := ite_t h hc
    refine R_icge_t rfl hc ?_
    obtain rfl := Option.some.inj h
    exact R_return rfl rfl hq
  · replace h := ite_f h hc
    refine R_icge_f (p := 8) rfl hc rfl ?_
    refine R_iload_n (p := 9) rfl l1 rfl ?_
    refine R_iconst (p := 10) rfl ki_1 rfl ?_
    refine R_iadd (p := 11) rfl rfl ?_
    refine R_istore_n (p := 12) rfl rfl rfl ?_
    exact LX9_passesAll_12 hK hd _ _ h hq _ (jg_ne l0 rfl) (jg_ne l1 rfl) jg_self
theorem LX9_passesAll_2 {xs : List Int32} {d : Nat} {r : jR} {K : Mem → List jE} (hK : Ctx shR K) (hd : 4 ≤ d)  (n : Nat) (s : Int32 × Mem) {t : Mem} (h : lp (lX9_passesAll_2) n s = some t) (hq : (qM r K) t) : gX9_passesAll_2 xs d r K s := lp_ind (G := gX9_passesAll_2 xs d r K) (Qe := (qM r K)) (fun s t h hq => BX9_passesAll_2 hK hd s h hq) n s t h hq
theorem ufX9_passesAll {xs : List Int32} {d : Nat} {r : jR} {K : Mem → List jE} (hK : Ctx shR K) (hd : 4 ≤ d) {m : Mem} {L : List (Nat × Value)} (l0 : jget L 0 = some (.ref 137)) {t : Mem} (h : fX9_passesAll m = some t) (hq : (qM r K) t) : RunD (jcs xs) d 4 (none) jt_X9_passesAll (0, L, [], (K m)) r := by
  unfold fX9_passesAll at h
  refine R_iconst (p := 1) rfl ki_0 rfl ?_
  refine R_istore_n (p := 2) rfl rfl rfl ?_
  exact LX9_passesAll_2 hK hd _ _ h hq _ (jg_ne l0 rfl) jg_self
theorem tfX9_passesAll {xs : List Int32} {d : Nat} {K : Mem → List jE} (hK : Ctx shR K) (hd : 5 ≤ d) {m : Mem} {t : Mem} (h : fX9_passesAll m = some t) : CallD (jcs xs) d 212 [.ref 137] (K m) (none, K t) := by
  obtain ⟨d, rfl⟩ : ∃ z, d = z + 1 := ⟨d - 1, by omega⟩
  refine CallD_of jmt_X9_passesAll rfl ⟨rfl, Nat.le_of_ble_eq_true rfl⟩ ?_
  exact ufX9_passesAll hK (Nat.le_of_succ_le_succ hd) rfl h rfl
noncomputable def fX9_drains (x1 : Int32) (m : Mem) : Mem := (mput m 138 7 ((fJ9_min_f86c9 (1999999999 : Int64) (((m 138 7).toInt64) + (x1.toInt64))).toInt32))
theorem ufX9_drains {xs : List Int32} {d : Nat} {r : jR} {K : Mem → List jE} (hK : Ctx shR K) (hd : 1 ≤ d) {x1 : Int32} {m : Mem} {L : List (Nat × Value)} (l0 : jget L 0 = some (.ref 137)) (l1 : jget L 1 = some (.int x1)) {t : Mem} (h : fX9_drains x1 m = t) (hq : (qM r K) t) : RunD (jcs xs) d 2 (none) jt_X9_drains (0, L, [], (K m)) r := by
  unfold fX9_drains at h
  refine R_aload_n (p := 1) rfl l0 rfl ?_
  refine R_getR (p := 4) (q := 138) hK rfl rfl rfl rfl ?_
  refine R_bipush (p := 6) rfl kb_7 rfl ?_
  refine R_ldc2_w (p := 9) rfl rfl ?_
  refine R_aload_n (p := 10) rfl l0 rfl ?_
  refine R_getR (p := 13) (q := 138) hK rfl rfl rfl rfl ?_
  refine R_bipush (p := 15) rfl kb_7 rfl ?_
  refine R_ialk (p := 16) hK rfl rfl (by decide) kn_7 rfl ?_
  refine R_i2l (p := 17) rfl rfl ?_
  refine R_iload_n (p := 18) rfl l1 rfl ?_
  refine R_i2l (p := 19) rfl rfl ?_
  refine R_ladd (p := 20) rfl rfl ?_
  refine R_cS2v (p := 23) rfl (tfJ9_min_f86c9 (Nat.le_trans (by decide) hd) ) rfl rfl ?_
  refine R_l2i (p := 24) rfl rfl ?_
  refine R_iask (p := 25) hK rfl rfl (by decide) kn_7 rfl ?_
  subst h
  exact R_return rfl rfl hq
theorem tfX9_drains {xs : List Int32} {d : Nat} {K : Mem → List jE} (hK : Ctx shR K) (hd : 2 ≤ d) {x1 : Int32} {m : Mem} : CallD (jcs xs) d 213 [.ref 137, .int x1] (K m) (none, K (fX9_drains x1 m)) := by
  obtain ⟨d, rfl⟩ : ∃ z, d = z + 1 := ⟨d - 1, by omega⟩
  refine CallD_of jmt_X9_drains rfl ⟨rfl, Nat.le_of_ble_eq_true rfl⟩ ?_
  exact ufX9_drains hK (Nat.le_of_succ_le_succ hd) rfl rfl rfl rfl
noncomputable def fX9_isLower (x1 : Int32) (x2 : Int32) (m : Mem) : Option Int32 := (if x1 = (16 : Int32) then some (0 : Int32) else (fX9_of x1 (4 : Int32) m).bind fun q1 => (fX9_of x2 (4 : Int32) m).bind fun q2 => (if q1 ≤ q2 then some (0 : Int32) else some (1 : Int32)))
theorem ufX9_isLower {xs : List Int32} {d : Nat} {r : jR} {K : Mem → List jE} (hK : Ctx shR K) (hd : 1 ≤ d) {x1 : Int32} {x2 : Int32} {m : Mem} {L : List (Nat × Value)} (l0 : jget L 0 = some (.ref 137)) (l1 : jget L 1 = some (.int x1)) (l2 : jget L 2 = some (.int x2)) {t : Int32} (h : fX9_isLower x1 x2 m = some t) (hq : (qI r (K m)) t) : RunD (jcs xs) d 3 (some .boolean) jt_X9_isLower (0, L, [], (K m)) r := by
  unfold fX9_isLower at h
  refine R_iload_n (p := 1) rfl l1 rfl ?_
  refine R_bipush (p := 3) rfl kb_16 rfl ?_
  by_cases hc : x1 = (16 : Int32)
  · replace h := ite_t h hc
    refine R_iceq_t rfl hc ?_
    refine R_iconst (p := 26) rfl ki_0 rfl ?_
    obtain rfl := Option.some.inj h
    exact R_zreturn rfl rfl (by decide) hq
  · replace h := ite_f h hc
    refine R_iceq_f (p := 6) rfl hc rfl ?_
    refine R_aload_n (p := 7) rfl l0 rfl ?_
    refine R_iload_n (p := 8) rfl l1 rfl ?_
    refine R_iconst (p := 9) rfl ki_4 rfl ?_
    obtain ⟨q1, eq1, h⟩ := bind_some h
    refine R_cV3v (p := 12) hK rfl rfl (tfX9_of hK (Nat.le_trans (by decide) hd)  eq1) rfl rfl ?_
    refine R_aload_n (p := 13) rfl l0 rfl ?_
    refine R_iload_n (p := 14) rfl l2 rfl ?_
    refine R_iconst (p := 15) rfl ki_4 rfl ?_
    obtain ⟨q2, eq2, h⟩ := bind_some h
    refine R_cV3v (p := 18) hK rfl rfl (tfX9_of hK (Nat.le_trans (by decide) hd)  eq2) rfl rfl ?_
    by_cases hc : q1 ≤ q2
    · replace h := ite_t h hc
      refine R_icle_t rfl hc ?_
      refine R_iconst (p := 26) rfl ki_0 rfl ?_
      obtain rfl := Option.some.inj h
      exact R_zreturn rfl rfl (by decide) hq
    · replace h := ite_f h hc
      refine R_icle_f (p := 21) rfl hc rfl ?_
      refine R_iconst (p := 22) rfl ki_1 rfl ?_
      refine R_goto rfl ?_
      obtain rfl := Option.some.inj h
      exact R_zreturn rfl rfl (by decide) hq
theorem tfX9_isLower {xs : List Int32} {d : Nat} {K : Mem → List jE} (hK : Ctx shR K) (hd : 2 ≤ d) {x1 : Int32} {x2 : Int32} {m : Mem} {t : Int32} (h : fX9_isLower x1 x2 m = some t) : CallD (jcs xs) d 214 [.ref 137, .int x1, .int x2] (K m) (some (.int t), (K m)) := by
  obtain ⟨d, rfl⟩ : ∃ z, d = z + 1 := ⟨d - 1, by omega⟩
  refine CallD_of jmt_X9_isLower rfl ⟨rfl, Nat.le_of_ble_eq_true rfl⟩ ?_
  exact ufX9_isLower hK (Nat.le_of_succ_le_succ hd) rfl rfl rfl h rfl
noncomputable def lX9_runs_245 (s : Int32 × Mem) : Option ((Int32 × Mem) ⊕ Mem) := (if (16 : Int32) ≤ s.1 then some (.inr s.2) else (fX9_is s.1 s.2).bind fun q1 => (if q1 = 0 then some (.inl ((s.1 + (1 : Int32)), s.2)) else (if inb s.1 16 then (if inb s.1 16 then (fX9_tells s.1 (3 : Int32) (fJ9_min_7cf53 (99999 : Int32) ((fX9_drains (fJ9_max_7cf53 (0 : Int32) ((s.2 147 s.1.toNatClampNeg) - (99999 : Int32))) s.2) 147 s.1.toNatClampNeg)) (fX9_drains (fJ9_max_7cf53 (0 : Int32) ((s.2 147 s.1.toNatClampNeg) - (99999 : Int32))) s.2)).bind fun q7 => some (.inl ((s.1 + (1 : Int32)), q7)) else none) else none)))
noncomputable def gX9_runs_245 (xs : List Int32) (d : Nat) (r : jR) (K : Mem → List jE) (s : Int32 × Mem) : Prop := ∀ L, jget L 0 = some (.ref 137) → jget L 1 = some (.int s.1) → RunD (jcs xs) d 7 (none) jt_X9_runs (245, L, [], (K s.2)) r
noncomputable def bX9_runs_209 (x1 : Int32) (x3 : Int32) (x4 : Int32) (m : Mem) : Option ((Int32 × Mem) ⊕ Mem) := (if x4 = 0 then (fX9_glassesOf x1 m).bind fun q14 => (if q14 ≤ 0 then some (.inl ((x1 + (1 : Int32)), m)) else (if inb x1 16 then (if inb x1 16 then some (.inl ((x1 + (1 : Int32)), (fX9_drains x3 (mput m 147 x1.toNatClampNeg ((m 147 x1.toNatClampNeg) - x3))))) else none) else none)) else some (.inl ((x1 + (1 : Int32)), m)))
noncomputable def lX9_runs_139 (x1 : Int32) (x3 : Int32) (x4 : Int32) (s : Int32 × Mem) : Option ((Int32 × Mem) ⊕ ((Int32 × Mem) ⊕ Mem)) := (fX9_sidesOf x1 s.2).bind fun q13 => (if q13 ≤ s.1 then (bX9_runs_209 x1 x3 x4 s.2).map Sum.inr else (if x4 ≤ 0 then (bX9_runs_209 x1 x3 x4 s.2).map Sum.inr else (fX9_of x1 ((6 : Int32) + s.1) s.2).bind fun q18 => (fX9_isLower q18 x1 s.2).bind fun q19 => (if q19 = 0 then some (.inl ((s.1 + (1 : Int32)), s.2)) else (if inb q18 16 then (if ¬ x4 = 0 then (if inb q18 16 then (if inb x1 16 then (if ¬ x4 = 0 then (if inb x1 16 then some (.inl ((s.1 + (1 : Int32)), (mput (mput s.2 147 q18.toNatClampNeg ((s.2 147 q18.toNatClampNeg) + (x3 / x4))) 147 x1.toNatClampNeg (((mput s.2 147 q18.toNatClampNeg ((s.2 147 q18.toNatClampNeg) + (x3 / x4))) 147 x1.toNatClampNeg) - (x3 / x4))))) else none) else none) else none) else none) else none) else none))))
noncomputable def gX9_runs_139 (xs : List Int32) (d : Nat) (r : jR) (K : Mem → List jE) (x1 : Int32) (x3 : Int32) (x4 : Int32) (s : Int32 × Mem) : Prop := ∀ L, jget L 0 = some (.ref 137) → jget L 1 = some (.int x1) → jget L 3 = some (.int x3) → jget L 4 = some (.int x4) → jget L 5 = some (.int s.1) → RunD (jcs xs) d 7 (none) jt_X9_runs (139, L, [], (K s.2)) r
noncomputable def lX9_runs_92 (x1 : Int32) (x3 : Int32) (m : Mem) (s : Int32 × Int32) : Option ((Int32 × Int32) ⊕ ((Int32 × Mem) ⊕ Mem)) := (fX9_sidesOf x1 m).bind fun q12 => (if q12 ≤ s.2 then (lp (lX9_runs_139 x1 x3 s.1) fu ((0 : Int32), m)).map Sum.inr else (fX9_of x1 ((6 : Int32) + s.2) m).bind fun q26 => (fX9_isLower q26 x1 m).bind fun q27 => (if q27 = 0 then some (.inl ((s.1 + (0 : Int32)), (s.2 + (1 : Int32)))) else some (.inl ((s.1 + (1 : Int32)), (s.2 + (1 : Int32))))))
noncomputable def gX9_runs_92 (xs : List Int32) (d : Nat) (r : jR) (K : Mem → List jE) (x1 : Int32) (x3 : Int32) (m : Mem) (s : Int32 × Int32) : Prop := ∀ L, jget L 0 = some (.ref 137) → jget L 1 = some (.int x1) → jget L 3 = some (.int x3) → jget L 4 = some (.int s.1) → jget L 5 = some (.int s.2) → RunD (jcs xs) d 7 (none) jt_X9_runs (92, L, [], (K m)) r
noncomputable def bX9_runs_84 (x1 : Int32) (y0 : Int32) (y1 : Int32) (m : Mem) : Option ((Int32 × Mem) ⊕ Mem) := (if ¬ y1 = 0 then lp (lX9_runs_92 x1 (y0 / y1) m) fu ((0 : Int32), (0 : Int32)) else none)
noncomputable def bX9_runs_67 (x1 : Int32) (y0 : Int32) (m : Mem) : Option ((Int32 × Mem) ⊕ Mem) := (fX9_of x1 (3 : Int32) m).bind fun q10 => (if y0 = 0 then bX9_runs_84 x1 q10 (4 : Int32) m else bX9_runs_84 x1 q10 (8 : Int32) m)
noncomputable def lX9_runs_28 (s : Int32 × Mem) : Option ((Int32 × Mem) ⊕ Mem) := (if (16 : Int32) ≤ s.1 then (lp (lX9_runs_245) fu ((0 : Int32), s.2)).map Sum.inr else (fX9_is s.1 s.2).bind fun q8 => (if q8 = 0 then some (.inl ((s.1 + (1 : Int32)), s.2)) else (fX9_of s.1 (1 : Int32) s.2).bind fun q9 => (if q9 = (3 : Int32) then bX9_runs_67 s.1 (1 : Int32) s.2 else (fX9_of s.1 (1 : Int32) s.2).bind fun q28 => (if q28 = (5 : Int32) then bX9_runs_67 s.1 (1 : Int32) s.2 else bX9_runs_67 s.1 (0 : Int32) s.2))))
noncomputable def gX9_runs_28 (xs : List Int32) (d : Nat) (r : jR) (K : Mem → List jE) (s : Int32 × Mem) : Prop := ∀ L, jget L 0 = some (.ref 137) → jget L 1 = some (.int s.1) → RunD (jcs xs) d 7 (none) jt_X9_runs (28, L, [], (K s.2)) r
noncomputable def lX9_runs_2 (s : Int32 × Mem) : Option ((Int32 × Mem) ⊕ Mem) := (if (16 : Int32) ≤ s.1 then (lp (lX9_runs_28) fu ((0 : Int32), s.2)).map Sum.inr else (fX9_of s.1 (3 : Int32) s.2).bind fun q29 => (if inb s.1 16 then some (.inl ((s.1 + (1 : Int32)), (mput s.2 147 s.1.toNatClampNeg q29))) else none))
noncomputable def gX9_runs_2 (xs : List Int32) (d : Nat) (r : jR) (K : Mem → List jE) (s : Int32 × Mem) : Prop := ∀ L, jget L 0 = some (.ref 137) → jget L 1 = some (.int s.1) → RunD (jcs xs) d 7 (none) jt_X9_runs (2, L, [], (K s.2)) r
noncomputable def fX9_runs (m : Mem) : Option Mem := lp (lX9_runs_2) fu ((0 : Int32), m)
theorem BX9_runs_245 {xs : List Int32} {d : Nat} {r : jR} {K : Mem → List jE} (hK : Ctx shR K) (hd : 3 ≤ d)  (s : Int32 × Mem) {t : (Int32 × Mem) ⊕ Mem} (h : lX9_runs_245 s = some t) (hq : sQ (gX9_runs_245 xs d r K) (qM r K) t) : gX9_runs_245 xs d r K s := by
  intro L l0 l1
  unfold lX9_runs_245 at h
  refine R_iload_n (p := 246) rfl l1 rfl ?_
  refine R_bipush (p := 248) rfl kb_16 rfl ?_
  by_cases hc : (16 : Int32) ≤ s.1
  · replace h := ite_t h hc
    refine R_icge_t rfl hc ?_
    obtain rfl := Option.some.inj h
    exact R_return rfl rfl hq
  · replace h := ite_f h hc
    refine R_icge_f (p := 251) rfl hc rfl ?_
    refine R_aload_n (p := 252) rfl l0 rfl ?_
    refine R_iload_n (p := 253) rfl l1 rfl ?_
    obtain ⟨q1, eq1, h⟩ := bind_some h
    refine R_cV2v (p := 256) hK rfl rfl (tfX9_is hK (Nat.le_trans (by decide) hd)  eq1) rfl rfl ?_
    by_cases hc : q1 = 0
    · replace h := ite_t h hc
      refine R_ifeq_t rfl hc ?_
      refine R_iinc (p := 296) rfl l1 rfl ki_1 rfl ?_
      refine R_goto rfl ?_
      obtain rfl := Option.some.inj h
      exact hq _ (jg_ne l0 rfl) jg_self
    · replace h := ite_f h hc
      refine R_ifeq_f (p := 259) rfl hc rfl ?_
      refine R_aload_n (p := 260) rfl l0 rfl ?_
      refine R_iconst (p := 261) rfl ki_0 rfl ?_
      refine R_aload_n (p := 262) rfl l0 rfl ?_
      refine R_getR (p := 265) (q := 147) hK rfl rfl rfl rfl ?_
      refine R_iload_n (p := 266) rfl l1 rfl ?_
      obtain ⟨b2, h⟩ := gd h
      refine R_iald (p := 267) hK rfl rfl b2 rfl ?_
      refine R_ldc (p := 269) rfl kl_99999 rfl ?_
      refine R_isub (p := 270) rfl rfl ?_
      refine R_cS2v (p := 273) rfl (tfJ9_max_7cf53 (Nat.le_trans (by decide) hd) ) rfl rfl ?_
      refine R_cV2n (p := 276) hK rfl rfl (tfX9_drains hK (Nat.le_trans (by decide) hd) ) rfl rfl ?_
      refine R_aload_n (p := 277) rfl l0 rfl ?_
      refine R_iload_n (p := 278) rfl l1 rfl ?_
      refine R_iconst (p := 279) rfl ki_3 rfl ?_
      refine R_ldc (p := 281) rfl kl_99999 rfl ?_
      refine R_aload_n (p := 282) rfl l0 rfl ?_
      refine R_getR (p := 285) (q := 147) hK rfl rfl rfl rfl ?_
      refine R_iload_n (p := 286) rfl l1 rfl ?_
      obtain ⟨b5, h⟩ := gd h
      refine R_iald (p := 287) hK rfl rfl b5 rfl ?_
      refine R_cS2v (p := 290) rfl (tfJ9_min_7cf53 (Nat.le_trans (by decide) hd) ) rfl rfl ?_
      obtain ⟨q7, eq7, h⟩ := bind_some h
      refine R_cV4n (p := 293) hK rfl rfl (tfX9_tells hK (Nat.le_trans (by decide) hd)  eq7) rfl rfl ?_
      refine R_iinc (p := 296) rfl l1 rfl ki_1 rfl ?_
      refine R_goto rfl ?_
      obtain rfl := Option.some.inj h
      exact hq _ (jg_ne l0 rfl) jg_self
theorem LX9_runs_245 {xs : List Int32} {d : Nat} {r : jR} {K : Mem → List jE} (hK : Ctx shR K) (hd : 3 ≤ d)  (n : Nat) (s : Int32 × Mem) {t : Mem} (h : lp (lX9_runs_245) n s = some t) (hq : (qM r K) t) : gX9_runs_245 xs d r K s := lp_ind (G := gX9_runs_245 xs d r K) (Qe := (qM r K)) (fun s t h hq => BX9_runs_245 hK hd s h hq) n s t h hq
theorem tbX9_runs_209 {xs : List Int32} {d : Nat} {r : jR} {K : Mem → List jE} (hK : Ctx shR K) (hd : 3 ≤ d)  {x1 : Int32} {x3 : Int32} {x4 : Int32} {m : Mem} {L : List (Nat × Value)} (l0 : jget L 0 = some (.ref 137)) (l1 : jget L 1 = some (.int x1)) (l3 : jget L 3 = some (.int x3)) (l4 : jget L 4 = some (.int x4)) {t : ((Int32 × Mem) ⊕ Mem)} (h : bX9_runs_209 x1 x3 x4 m = some t) (hq : (sQ (gX9_runs_28 xs d r K) (qM r K)) t) : RunD (jcs xs) d 7 (none) jt_X9_runs (209, L, [], (K m)) r := by
  unfold bX9_runs_209 at h
  refine R_iload (p := 211) rfl l4 rfl ?_
  by_cases hc : x4 = 0
  · replace h := ite_t h hc
    refine R_ifne_f (p := 214) rfl (fun z => z hc) rfl ?_
    refine R_aload_n (p := 215) rfl l0 rfl ?_
    refine R_iload_n (p := 216) rfl l1 rfl ?_
    obtain ⟨q14, eq14, h⟩ := bind_some h
    refine R_cV2v (p := 219) hK rfl rfl (tfX9_glassesOf hK (Nat.le_trans (by decide) hd)  eq14) rfl rfl ?_
    by_cases hc : q14 ≤ 0
    · replace h := ite_t h hc
      refine R_ifle_t rfl hc ?_
      refine R_iinc (p := 240) rfl l1 rfl ki_1 rfl ?_
      refine R_goto rfl ?_
      obtain rfl := Option.some.inj h
      exact hq _ (jg_ne l0 rfl) jg_self
    · replace h := ite_f h hc
      refine R_ifle_f (p := 222) rfl hc rfl ?_
      refine R_aload_n (p := 223) rfl l0 rfl ?_
      refine R_getR (p := 226) (q := 147) hK rfl rfl rfl rfl ?_
      refine R_iload_n (p := 227) rfl l1 rfl ?_
      refine R_dup2ia (p := 228) rfl rfl ?_
      obtain ⟨b15, h⟩ := gd h
      refine R_iald (p := 229) hK rfl rfl b15 rfl ?_
      refine R_iload_n (p := 230) rfl l3 rfl ?_
      refine R_isub (p := 231) rfl rfl ?_
      obtain ⟨b16, h⟩ := gd h
      refine R_iast (p := 232) hK rfl rfl b16 rfl ?_
      refine R_aload_n (p := 233) rfl l0 rfl ?_
      refine R_iload_n (p := 234) rfl l3 rfl ?_
      refine R_cV2n (p := 237) hK rfl rfl (tfX9_drains hK (Nat.le_trans (by decide) hd) ) rfl rfl ?_
      refine R_iinc (p := 240) rfl l1 rfl ki_1 rfl ?_
      refine R_goto rfl ?_
      obtain rfl := Option.some.inj h
      exact hq _ (jg_ne l0 rfl) jg_self
  · replace h := ite_f h hc
    refine R_ifne_t rfl hc ?_
    refine R_iinc (p := 240) rfl l1 rfl ki_1 rfl ?_
    refine R_goto rfl ?_
    obtain rfl := Option.some.inj h
    exact hq _ (jg_ne l0 rfl) jg_self
theorem BX9_runs_139 {xs : List Int32} {d : Nat} {r : jR} {K : Mem → List jE} (hK : Ctx shR K) (hd : 3 ≤ d)  {x1 : Int32} {x3 : Int32} {x4 : Int32} (s : Int32 × Mem) {t : (Int32 × Mem) ⊕ ((Int32 × Mem) ⊕ Mem)} (h : lX9_runs_139 x1 x3 x4 s = some t) (hq : sQ (gX9_runs_139 xs d r K x1 x3 x4) (sQ (gX9_runs_28 xs d r K) (qM r K)) t) : gX9_runs_139 xs d r K x1 x3 x4 s := by
  intro L l0 l1 l3 l4 l5
  unfold lX9_runs_139 at h
  refine R_iload (p := 141) rfl l5 rfl ?_
  refine R_aload_n (p := 142) rfl l0 rfl ?_
  refine R_iload_n (p := 143) rfl l1 rfl ?_
  obtain ⟨q13, eq13, h⟩ := bind_some h
  refine R_cV2v (p := 146) hK rfl rfl (tfX9_sidesOf hK (Nat.le_trans (by decide) hd)  eq13) rfl rfl ?_
  by_cases hc : q13 ≤ s.1
  · replace h := ite_t h hc
    refine R_icge_t rfl hc ?_
    obtain ⟨w9, h9, rfl⟩ := map_inr h
    replace h := h9
    exact tbX9_runs_209 hK hd l0 l1 l3 l4 h hq
  · replace h := ite_f h hc
    refine R_icge_f (p := 149) rfl hc rfl ?_
    refine R_iload (p := 151) rfl l4 rfl ?_
    by_cases hc : x4 ≤ 0
    · replace h := ite_t h hc
      refine R_ifle_t rfl hc ?_
      obtain ⟨w9, h9, rfl⟩ := map_inr h
      replace h := h9
      exact tbX9_runs_209 hK hd l0 l1 l3 l4 h hq
    · replace h := ite_f h hc
      refine R_ifle_f (p := 154) rfl hc rfl ?_
      refine R_aload_n (p := 155) rfl l0 rfl ?_
      refine R_iload_n (p := 156) rfl l1 rfl ?_
      refine R_bipush (p := 158) rfl kb_6 rfl ?_
      refine R_iload (p := 160) rfl l5 rfl ?_
      refine R_iadd (p := 161) rfl rfl ?_
      obtain ⟨q18, eq18, h⟩ := bind_some h
      refine R_cV3v (p := 164) hK rfl rfl (tfX9_of hK (Nat.le_trans (by decide) hd)  eq18) rfl rfl ?_
      refine R_istore (p := 166) rfl rfl rfl ?_
      refine R_aload_n (p := 167) rfl (jg_ne l0 rfl) rfl ?_
      refine R_iload (p := 169) rfl jg_self rfl ?_
      refine R_iload_n (p := 170) rfl (jg_ne l1 rfl) rfl ?_
      obtain ⟨q19, eq19, h⟩ := bind_some h
      refine R_cV3v (p := 173) hK rfl rfl (tfX9_isLower hK (Nat.le_trans (by decide) hd)  eq19) rfl rfl ?_
      by_cases hc : q19 = 0
      · replace h := ite_t h hc
        refine R_ifeq_t rfl hc ?_
        refine R_iinc (p := 206) rfl (jg_ne l5 rfl) rfl ki_1 rfl ?_
        refine R_goto rfl ?_
        obtain rfl := Option.some.inj h
        exact hq _ (jg_ne (jg_ne l0 rfl) rfl) (jg_ne (jg_ne l1 rfl) rfl) (jg_ne (jg_ne l3 rfl) rfl) (jg_ne (jg_ne l4 rfl) rfl) jg_self
      · replace h := ite_f h hc
        refine R_ifeq_f (p := 176) rfl hc rfl ?_
        refine R_aload_n (p := 177) rfl (jg_ne l0 rfl) rfl ?_
        refine R_getR (p := 180) (q := 147) hK rfl rfl rfl rfl ?_
        refine R_iload (p := 182) rfl jg_self rfl ?_
        refine R_dup2ia (p := 183) rfl rfl ?_
        obtain ⟨b20, h⟩ := gd h
        refine R_iald (p := 184) hK rfl rfl b20 rfl ?_
        refine R_iload_n (p := 185) rfl (jg_ne l3 rfl) rfl ?_
        refine R_iload (p := 187) rfl (jg_ne l4 rfl) rfl ?_
        obtain ⟨b21, h⟩ := gd h
        refine R_idiv (p := 188) rfl b21 rfl ?_
        refine R_iadd (p := 189) rfl rfl ?_
        obtain ⟨b22, h⟩ := gd h
        refine R_iast (p := 190) hK rfl rfl b22 rfl ?_
        refine R_aload_n (p := 191) rfl (jg_ne l0 rfl) rfl ?_
        refine R_getR (p := 194) (q := 147) hK rfl rfl rfl rfl ?_
        refine R_iload_n (p := 195) rfl (jg_ne l1 rfl) rfl ?_
        refine R_dup2ia (p := 196) rfl rfl ?_
        obtain ⟨b23, h⟩ := gd h
        refine R_iald (p := 197) hK rfl rfl b23 rfl ?_
        refine R_iload_n (p := 198) rfl (jg_ne l3 rfl) rfl ?_
        refine R_iload (p := 200) rfl (jg_ne l4 rfl) rfl ?_
        obtain ⟨b24, h⟩ := gd h
        refine R_idiv (p := 201) rfl b24 rfl ?_
        refine R_isub (p := 202) rfl rfl ?_
        obtain ⟨b25, h⟩ := gd h
        refine R_iast (p := 203) hK rfl rfl b25 rfl ?_
        refine R_iinc (p := 206) rfl (jg_ne l5 rfl) rfl ki_1 rfl ?_
        refine R_goto rfl ?_
        obtain rfl := Option.some.inj h
        exact hq _ (jg_ne (jg_ne l0 rfl) rfl) (jg_ne (jg_ne l1 rfl) rfl) (jg_ne (jg_ne l3 rfl) rfl) (jg_ne (jg_ne l4 rfl) rfl) jg_self
theorem LX9_runs_139 {xs : List Int32} {d : Nat} {r : jR} {K : Mem → List jE} (hK : Ctx shR K) (hd : 3 ≤ d)  {x1 : Int32} {x3 : Int32} {x4 : Int32} (n : Nat) (s : Int32 × Mem) {t : ((Int32 × Mem) ⊕ Mem)} (h : lp (lX9_runs_139 x1 x3 x4) n s = some t) (hq : (sQ (gX9_runs_28 xs d r K) (qM r K)) t) : gX9_runs_139 xs d r K x1 x3 x4 s := lp_ind (G := gX9_runs_139 xs d r K x1 x3 x4) (Qe := (sQ (gX9_runs_28 xs d r K) (qM r K))) (fun s t h hq => BX9_runs_139 hK hd s h hq) n s t h hq
theorem BX9_runs_92 {xs : List Int32} {d : Nat} {r : jR} {K : Mem → List jE} (hK : Ctx shR K) (hd : 3 ≤ d)  {x1 : Int32} {x3 : Int32} {m : Mem} (s : Int32 × Int32) {t : (Int32 × Int32) ⊕ ((Int32 × Mem) ⊕ Mem)} (h : lX9_runs_92 x1 x3 m s = some t) (hq : sQ (gX9_runs_92 xs d r K x1 x3 m) (sQ (gX9_runs_28 xs d r K) (qM r K)) t) : gX9_runs_92 xs d r K x1 x3 m s := by
  intro L l0 l1 l3 l4 l5
  unfold lX9_runs_92 at h
  refine R_iload (p := 94) rfl l5 rfl ?_
  refine R_aload_n (p := 95) rfl l0 rfl ?_
  refine R_iload_n (p := 96) rfl l1 rfl ?_
  obtain ⟨q12, eq12, h⟩ := bind_some h
  refine R_cV2v (p := 99) hK rfl rfl (tfX9_sidesOf hK (Nat.le_trans (by decide) hd)  eq12) rfl rfl ?_
  by_cases hc : q12 ≤ s.2
  · replace h := ite_t h hc
    refine R_icge_t rfl hc ?_
    refine R_iconst (p := 137) rfl ki_0 rfl ?_
    refine R_istore (p := 139) rfl rfl rfl ?_
    obtain ⟨w9, h9, rfl⟩ := map_inr h
    replace h := h9
    exact LX9_runs_139 hK hd _ _ h hq _ (jg_ne l0 rfl) (jg_ne l1 rfl) (jg_ne l3 rfl) (jg_ne l4 rfl) jg_self
  · replace h := ite_f h hc
    refine R_icge_f (p := 102) rfl hc rfl ?_
    refine R_iload (p := 104) rfl l4 rfl ?_
    refine R_aload_n (p := 105) rfl l0 rfl ?_
    refine R_aload_n (p := 106) rfl l0 rfl ?_
    refine R_iload_n (p := 107) rfl l1 rfl ?_
    refine R_bipush (p := 109) rfl kb_6 rfl ?_
    refine R_iload (p := 111) rfl l5 rfl ?_
    refine R_iadd (p := 112) rfl rfl ?_
    obtain ⟨q26, eq26, h⟩ := bind_some h
    refine R_cV3v (p := 115) hK rfl rfl (tfX9_of hK (Nat.le_trans (by decide) hd)  eq26) rfl rfl ?_
    refine R_iload_n (p := 116) rfl l1 rfl ?_
    obtain ⟨q27, eq27, h⟩ := bind_some h
    refine R_cV3v (p := 119) hK rfl rfl (tfX9_isLower hK (Nat.le_trans (by decide) hd)  eq27) rfl rfl ?_
    by_cases hc : q27 = 0
    · replace h := ite_t h hc
      refine R_ifeq_t rfl hc ?_
      refine R_iconst (p := 127) rfl ki_0 rfl ?_
      refine R_iadd (p := 128) rfl rfl ?_
      refine R_istore (p := 130) rfl rfl rfl ?_
      refine R_iinc (p := 133) rfl (jg_ne l5 rfl) rfl ki_1 rfl ?_
      refine R_goto rfl ?_
      obtain rfl := Option.some.inj h
      exact hq _ (jg_ne (jg_ne l0 rfl) rfl) (jg_ne (jg_ne l1 rfl) rfl) (jg_ne (jg_ne l3 rfl) rfl) (jg_ne jg_self rfl) jg_self
    · replace h := ite_f h hc
      refine R_ifeq_f (p := 122) rfl hc rfl ?_
      refine R_iconst (p := 123) rfl ki_1 rfl ?_
      refine R_goto rfl ?_
      refine R_iadd (p := 128) rfl rfl ?_
      refine R_istore (p := 130) rfl rfl rfl ?_
      refine R_iinc (p := 133) rfl (jg_ne l5 rfl) rfl ki_1 rfl ?_
      refine R_goto rfl ?_
      obtain rfl := Option.some.inj h
      exact hq _ (jg_ne (jg_ne l0 rfl) rfl) (jg_ne (jg_ne l1 rfl) rfl) (jg_ne (jg_ne l3 rfl) rfl) (jg_ne jg_self rfl) jg_self
theorem LX9_runs_92 {xs : List Int32} {d : Nat} {r : jR} {K : Mem → List jE} (hK : Ctx shR K) (hd : 3 ≤ d)  {x1 : Int32} {x3 : Int32} {m : Mem} (n : Nat) (s : Int32 × Int32) {t : ((Int32 × Mem) ⊕ Mem)} (h : lp (lX9_runs_92 x1 x3 m) n s = some t) (hq : (sQ (gX9_runs_28 xs d r K) (qM r K)) t) : gX9_runs_92 xs d r K x1 x3 m s := lp_ind (G := gX9_runs_92 xs d r K x1 x3 m) (Qe := (sQ (gX9_runs_28 xs d r K) (qM r K))) (fun s t h hq => BX9_runs_92 hK hd s h hq) n s t h hq
theorem tbX9_runs_84 {xs : List Int32} {d : Nat} {r : jR} {K : Mem → List jE} (hK : Ctx shR K) (hd : 3 ≤ d)  {x1 : Int32} {y0 : Int32} {y1 : Int32} {m : Mem} {L : List (Nat × Value)} (l0 : jget L 0 = some (.ref 137)) (l1 : jget L 1 = some (.int x1)) {t : ((Int32 × Mem) ⊕ Mem)} (h : bX9_runs_84 x1 y0 y1 m = some t) (hq : (sQ (gX9_runs_28 xs d r K) (qM r K)) t) : RunD (jcs xs) d 7 (none) jt_X9_runs (84, L, [.int y1, .int y0], (K m)) r := by
  unfold bX9_runs_84 at h
  obtain ⟨b11, h⟩ := gd h
  refine R_idiv (p := 85) rfl b11 rfl ?_
  refine R_istore_n (p := 86) rfl rfl rfl ?_
  refine R_iconst (p := 87) rfl ki_0 rfl ?_
  refine R_istore (p := 89) rfl rfl rfl ?_
  refine R_iconst (p := 90) rfl ki_0 rfl ?_
  refine R_istore (p := 92) rfl rfl rfl ?_
  exact LX9_runs_92 hK hd _ _ h hq _ (jg_ne (jg_ne (jg_ne l0 rfl) rfl) rfl) (jg_ne (jg_ne (jg_ne l1 rfl) rfl) rfl) (jg_ne (jg_ne jg_self rfl) rfl) (jg_ne jg_self rfl) jg_self
theorem tbX9_runs_67 {xs : List Int32} {d : Nat} {r : jR} {K : Mem → List jE} (hK : Ctx shR K) (hd : 3 ≤ d)  {x1 : Int32} {y0 : Int32} {m : Mem} {L : List (Nat × Value)} (l0 : jget L 0 = some (.ref 137)) (l1 : jget L 1 = some (.int x1)) {t : ((Int32 × Mem) ⊕ Mem)} (h : bX9_runs_67 x1 y0 m = some t) (hq : (sQ (gX9_runs_28 xs d r K) (qM r K)) t) : RunD (jcs xs) d 7 (none) jt_X9_runs (67, L, [.int y0], (K m)) r := by
  unfold bX9_runs_67 at h
  refine R_istore_n (p := 68) rfl rfl rfl ?_
  refine R_aload_n (p := 69) rfl (jg_ne l0 rfl) rfl ?_
  refine R_iload_n (p := 70) rfl (jg_ne l1 rfl) rfl ?_
  refine R_iconst (p := 71) rfl ki_3 rfl ?_
  obtain ⟨q10, eq10, h⟩ := bind_some h
  refine R_cV3v (p := 74) hK rfl rfl (tfX9_of hK (Nat.le_trans (by decide) hd)  eq10) rfl rfl ?_
  refine R_iload_n (p := 75) rfl jg_self rfl ?_
  by_cases hc : y0 = 0
  · replace h := ite_t h hc
    refine R_ifeq_t rfl hc ?_
    refine R_iconst (p := 84) rfl ki_4 rfl ?_
    exact tbX9_runs_84 hK hd (jg_ne l0 rfl) (jg_ne l1 rfl) h hq
  · replace h := ite_f h hc
    refine R_ifeq_f (p := 78) rfl hc rfl ?_
    refine R_bipush (p := 80) rfl kb_8 rfl ?_
    refine R_goto rfl ?_
    exact tbX9_runs_84 hK hd (jg_ne l0 rfl) (jg_ne l1 rfl) h hq
theorem BX9_runs_28 {xs : List Int32} {d : Nat} {r : jR} {K : Mem → List jE} (hK : Ctx shR K) (hd : 3 ≤ d)  (s : Int32 × Mem) {t : (Int32 × Mem) ⊕ Mem} (h : lX9_runs_28 s = some t) (hq : sQ (gX9_runs_28 xs d r K) (qM r K) t) : gX9_runs_28 xs d r K s := by
  intro L l0 l1
  unfold lX9_runs_28 at h
  refine R_iload_n (p := 29) rfl l1 rfl ?_
  refine R_bipush (p := 31) rfl kb_16 rfl ?_
  by_cases hc : (16 : Int32) ≤ s.1
  · replace h := ite_t h hc
    refine R_icge_t rfl hc ?_
    refine R_iconst (p := 244) rfl ki_0 rfl ?_
    refine R_istore_n (p := 245) rfl rfl rfl ?_
    obtain ⟨w9, h9, rfl⟩ := map_inr h
    replace h := h9
    exact LX9_runs_245 hK hd _ _ h hq _ (jg_ne l0 rfl) jg_self
  · replace h := ite_f h hc
    refine R_icge_f (p := 34) rfl hc rfl ?_
    refine R_aload_n (p := 35) rfl l0 rfl ?_
    refine R_iload_n (p := 36) rfl l1 rfl ?_
    obtain ⟨q8, eq8, h⟩ := bind_some h
    refine R_cV2v (p := 39) hK rfl rfl (tfX9_is hK (Nat.le_trans (by decide) hd)  eq8) rfl rfl ?_
    by_cases hc : q8 = 0
    · replace h := ite_t h hc
      refine R_ifeq_t rfl hc ?_
      refine R_iinc (p := 240) rfl l1 rfl ki_1 rfl ?_
      refine R_goto rfl ?_
      obtain rfl := Option.some.inj h
      exact hq _ (jg_ne l0 rfl) jg_self
    · replace h := ite_f h hc
      refine R_ifeq_f (p := 42) rfl hc rfl ?_
      refine R_aload_n (p := 43) rfl l0 rfl ?_
      refine R_iload_n (p := 44) rfl l1 rfl ?_
      refine R_iconst (p := 45) rfl ki_1 rfl ?_
      obtain ⟨q9, eq9, h⟩ := bind_some h
      refine R_cV3v (p := 48) hK rfl rfl (tfX9_of hK (Nat.le_trans (by decide) hd)  eq9) rfl rfl ?_
      refine R_iconst (p := 49) rfl ki_3 rfl ?_
      by_cases hc : q9 = (3 : Int32)
      · replace h := ite_t h hc
        refine R_iceq_t rfl hc ?_
        refine R_iconst (p := 63) rfl ki_1 rfl ?_
        refine R_goto rfl ?_
        exact tbX9_runs_67 hK hd l0 l1 h hq
      · replace h := ite_f h hc
        refine R_iceq_f (p := 52) rfl hc rfl ?_
        refine R_aload_n (p := 53) rfl l0 rfl ?_
        refine R_iload_n (p := 54) rfl l1 rfl ?_
        refine R_iconst (p := 55) rfl ki_1 rfl ?_
        obtain ⟨q28, eq28, h⟩ := bind_some h
        refine R_cV3v (p := 58) hK rfl rfl (tfX9_of hK (Nat.le_trans (by decide) hd)  eq28) rfl rfl ?_
        refine R_iconst (p := 59) rfl ki_5 rfl ?_
        by_cases hc : q28 = (5 : Int32)
        · replace h := ite_t h hc
          refine R_icne_f (p := 62) rfl (fun z => z hc) rfl ?_
          refine R_iconst (p := 63) rfl ki_1 rfl ?_
          refine R_goto rfl ?_
          exact tbX9_runs_67 hK hd l0 l1 h hq
        · replace h := ite_f h hc
          refine R_icne_t rfl hc ?_
          refine R_iconst (p := 67) rfl ki_0 rfl ?_
          exact tbX9_runs_67 hK hd l0 l1 h hq
theorem LX9_runs_28 {xs : List Int32} {d : Nat} {r : jR} {K : Mem → List jE} (hK : Ctx shR K) (hd : 3 ≤ d)  (n : Nat) (s : Int32 × Mem) {t : Mem} (h : lp (lX9_runs_28) n s = some t) (hq : (qM r K) t) : gX9_runs_28 xs d r K s := lp_ind (G := gX9_runs_28 xs d r K) (Qe := (qM r K)) (fun s t h hq => BX9_runs_28 hK hd s h hq) n s t h hq
theorem BX9_runs_2 {xs : List Int32} {d : Nat} {r : jR} {K : Mem → List jE} (hK : Ctx shR K) (hd : 3 ≤ d)  (s : Int32 × Mem) {t : (Int32 × Mem) ⊕ Mem} (h : lX9_runs_2 s = some t) (hq : sQ (gX9_runs_2 xs d r K) (qM r K) t) : gX9_runs_2 xs d r K s := by
  intro L l0 l1
  unfold lX9_runs_2 at h
  refine R_iload_n (p := 3) rfl l1 rfl ?_
  refine R_bipush (p := 5) rfl kb_16 rfl ?_
  by_cases hc : (16 : Int32) ≤ s.1
  · replace h := ite_t h hc
    refine R_icge_t rfl hc ?_
    refine R_iconst (p := 27) rfl ki_0 rfl ?_
    refine R_istore_n (p := 28) rfl rfl rfl ?_
    obtain ⟨w9, h9, rfl⟩ := map_inr h
    replace h := h9
    exact LX9_runs_28 hK hd _ _ h hq _ (jg_ne l0 rfl) jg_self
  · replace h := ite_f h hc
    refine R_icge_f (p := 8) rfl hc rfl ?_
    refine R_aload_n (p := 9) rfl l0 rfl ?_
    refine R_getR (p := 12) (q := 147) hK rfl rfl rfl rfl ?_
    refine R_iload_n (p := 13) rfl l1 rfl ?_
    refine R_aload_n (p := 14) rfl l0 rfl ?_
    refine R_iload_n (p := 15) rfl l1 rfl ?_
    refine R_iconst (p := 16) rfl ki_3 rfl ?_
    obtain ⟨q29, eq29, h⟩ := bind_some h
    refine R_cV3v (p := 19) hK rfl rfl (tfX9_of hK (Nat.le_trans (by decide) hd)  eq29) rfl rfl ?_
    obtain ⟨b30, h⟩ := gd h
    refine R_iast (p := 20) hK rfl rfl b30 rfl ?_
    refine R_iinc (p := 23) rfl l1 rfl ki_1 rfl ?_
    refine R_goto rfl ?_
    obtain rfl := Option.some.inj h
    exact hq _ (jg_ne l0 rfl) jg_self
theorem LX9_runs_2 {xs : List Int32} {d : Nat} {r : jR} {K : Mem → List jE} (hK : Ctx shR K) (hd : 3 ≤ d)  (n : Nat) (s : Int32 × Mem) {t : Mem} (h : lp (lX9_runs_2) n s = some t) (hq : (qM r K) t) : gX9_runs_2 xs d r K s := lp_ind (G := gX9_runs_2 xs d r K) (Qe := (qM r K)) (fun s t h hq => BX9_runs_2 hK hd s h hq) n s t h hq
theorem ufX9_runs {xs : List Int32} {d : Nat} {r : jR} {K : Mem → List jE} (hK : Ctx shR K) (hd : 3 ≤ d) {m : Mem} {L : List (Nat × Value)} (l0 : jget L 0 = some (.ref 137)) {t : Mem} (h : fX9_runs m = some t) (hq : (qM r K) t) : RunD (jcs xs) d 7 (none) jt_X9_runs (0, L, [], (K m)) r := by
  unfold fX9_runs at h
  refine R_iconst (p := 1) rfl ki_0 rfl ?_
  refine R_istore_n (p := 2) rfl rfl rfl ?_
  exact LX9_runs_2 hK hd _ _ h hq _ (jg_ne l0 rfl) jg_self
theorem tfX9_runs {xs : List Int32} {d : Nat} {K : Mem → List jE} (hK : Ctx shR K) (hd : 4 ≤ d) {m : Mem} {t : Mem} (h : fX9_runs m = some t) : CallD (jcs xs) d 215 [.ref 137] (K m) (none, K t) := by
  obtain ⟨d, rfl⟩ : ∃ z, d = z + 1 := ⟨d - 1, by omega⟩
  refine CallD_of jmt_X9_runs rfl ⟨rfl, Nat.le_of_ble_eq_true rfl⟩ ?_
  exact ufX9_runs hK (Nat.le_of_succ_le_succ hd) rfl h rfl
