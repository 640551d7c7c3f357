noncomputable def fX9_isDry (x1 : Int32) (x2 : Int32) (m : Mem) : Option (Int32 × Mem) := (fX9_of x1 (3 : Int32) m).bind fun q1 => (fX9_of x2 (3 : Int32) m).bind fun q2 => (fX9_hasText (1 : Int32) m).bind fun q4 => (if q4 = 0 then (fX9_dryOf x1 m).bind fun q5 => (if (fJ9_min_7cf53 q1 q2) < q5 then some ((1 : Int32), m) else (fX9_dryOf x2 m).bind fun q6 => (if q6 ≤ (fJ9_min_7cf53 q1 q2) then some ((0 : Int32), m) else some ((1 : Int32), m))) else (fX9_of x1 (3 : Int32) m).bind fun q7 => (fX9_of x2 (3 : Int32) m).bind fun q8 => (fX9_sidesOf x1 m).bind fun q10 => (fX9_sidesOf x2 m).bind fun q11 => (fX9_given (1 : Int32) (fJ9_min_7cf53 q1 q2) (fJ9_max_7cf53 q7 q8) q10 q11 (m 138 0) m).bind fun q12 => (if q12.1 = 0 then some ((0 : Int32), q12.2) else some ((1 : Int32), q12.2)))
theorem ufX9_isDry {xs : List Int32} {d : Nat} {r : jR} {K : Mem → List jE} (hK : Ctx shR K) (hd : 3 ≤ d) {x1 : Int32} {x2 : Int32} {m : Mem} {L : List (Nat × Value)} (l0 : jget L 0 = some (.ref 137)) (l1 : jget L 1 = some (.int x1)) (l2 : jget L 2 = some (.int x2)) {t : (Int32 × Mem)} (h : fX9_isDry x1 x2 m = some t) (hq : (qIM r K) t) : RunD (jcs xs) d 4 (some .boolean) jt_X9_isDry (0, L, [], (K m)) r := by
  unfold fX9_isDry at h
  refine R_aload_n (p := 1) rfl l0 rfl ?_
  refine R_iload_n (p := 2) rfl l1 rfl ?_
  refine R_iconst (p := 3) rfl ki_3 rfl ?_
  obtain ⟨q1, eq1, h⟩ := bind_some h
  refine R_cV3v (p := 6) hK rfl rfl (tfX9_of hK (Nat.le_trans (by decide) hd)  eq1) rfl rfl ?_
  refine R_aload_n (p := 7) rfl l0 rfl ?_
  refine R_iload_n (p := 8) rfl l2 rfl ?_
  refine R_iconst (p := 9) rfl ki_3 rfl ?_
  obtain ⟨q2, eq2, h⟩ := bind_some h
  refine R_cV3v (p := 12) hK rfl rfl (tfX9_of hK (Nat.le_trans (by decide) hd)  eq2) rfl rfl ?_
  refine R_cS2v (p := 15) rfl (tfJ9_min_7cf53 (Nat.le_trans (by decide) hd) ) rfl rfl ?_
  refine R_istore_n (p := 16) rfl rfl rfl ?_
  refine R_aload_n (p := 17) rfl (jg_ne l0 rfl) rfl ?_
  refine R_iconst (p := 18) rfl ki_1 rfl ?_
  obtain ⟨q4, eq4, h⟩ := bind_some h
  refine R_cV2v (p := 21) hK rfl rfl (tfX9_hasText hK (Nat.le_trans (by decide) hd)  eq4) rfl rfl ?_
  by_cases hc : q4 = 0
  · replace h := ite_t h hc
    refine R_ifeq_t rfl hc ?_
    refine R_iload_n (p := 71) rfl jg_self rfl ?_
    refine R_aload_n (p := 72) rfl (jg_ne l0 rfl) rfl ?_
    refine R_iload_n (p := 73) rfl (jg_ne l1 rfl) rfl ?_
    obtain ⟨q5, eq5, h⟩ := bind_some h
    refine R_cV2v (p := 76) hK rfl rfl (tfX9_dryOf hK (Nat.le_trans (by decide) hd)  eq5) rfl rfl ?_
    by_cases hc : (fJ9_min_7cf53 q1 q2) < q5
    · replace h := ite_t h hc
      refine R_iclt_t rfl hc ?_
      refine R_iconst (p := 89) rfl ki_1 rfl ?_
      refine R_goto rfl ?_
      obtain rfl := Option.some.inj h
      exact R_zreturn rfl rfl (by decide) hq
    · replace h := ite_f h hc
      refine R_iclt_f (p := 79) rfl hc rfl ?_
      refine R_iload_n (p := 80) rfl jg_self rfl ?_
      refine R_aload_n (p := 81) rfl (jg_ne l0 rfl) rfl ?_
      refine R_iload_n (p := 82) rfl (jg_ne l2 rfl) rfl ?_
      obtain ⟨q6, eq6, h⟩ := bind_some h
      refine R_cV2v (p := 85) hK rfl rfl (tfX9_dryOf hK (Nat.le_trans (by decide) hd)  eq6) rfl rfl ?_
      by_cases hc : q6 ≤ (fJ9_min_7cf53 q1 q2)
      · replace h := ite_t h hc
        refine R_icge_t rfl hc ?_
        refine R_iconst (p := 93) rfl ki_0 rfl ?_
        obtain rfl := Option.some.inj h
        exact R_zreturn rfl rfl (by decide) hq
      · replace h := ite_f h hc
        refine R_icge_f (p := 88) rfl hc rfl ?_
        refine R_iconst (p := 89) rfl ki_1 rfl ?_
        refine R_goto rfl ?_
        obtain rfl := Option.some.inj h
        exact R_zreturn rfl rfl (by decide) hq
  · replace h := ite_f h hc
    refine R_ifeq_f (p := 24) rfl hc rfl ?_
    refine R_aload_n (p := 25) rfl (jg_ne l0 rfl) rfl ?_
    refine R_iconst (p := 26) rfl ki_1 rfl ?_
    refine R_iload_n (p := 27) rfl jg_self rfl ?_
    refine R_aload_n (p := 28) rfl (jg_ne l0 rfl) rfl ?_
    refine R_iload_n (p := 29) rfl (jg_ne l1 rfl) rfl ?_
    refine R_iconst (p := 30) rfl ki_3 rfl ?_
    obtain ⟨q7, eq7, h⟩ := bind_some h
    refine R_cV3v (p := 33) hK rfl rfl (tfX9_of hK (Nat.le_trans (by decide) hd)  eq7) rfl rfl ?_
    refine R_aload_n (p := 34) rfl (jg_ne l0 rfl) rfl ?_
    refine R_iload_n (p := 35) rfl (jg_ne l2 rfl) rfl ?_
    refine R_iconst (p := 36) rfl ki_3 rfl ?_
    obtain ⟨q8, eq8, h⟩ := bind_some h
    refine R_cV3v (p := 39) hK rfl rfl (tfX9_of hK (Nat.le_trans (by decide) hd)  eq8) rfl rfl ?_
    refine R_cS2v (p := 42) rfl (tfJ9_max_7cf53 (Nat.le_trans (by decide) hd) ) rfl rfl ?_
    refine R_aload_n (p := 43) rfl (jg_ne l0 rfl) rfl ?_
    refine R_iload_n (p := 44) rfl (jg_ne l1 rfl) rfl ?_
    obtain ⟨q10, eq10, h⟩ := bind_some h
    refine R_cV2v (p := 47) hK rfl rfl (tfX9_sidesOf hK (Nat.le_trans (by decide) hd)  eq10) rfl rfl ?_
    refine R_aload_n (p := 48) rfl (jg_ne l0 rfl) rfl ?_
    refine R_iload_n (p := 49) rfl (jg_ne l2 rfl) rfl ?_
    obtain ⟨q11, eq11, h⟩ := bind_some h
    refine R_cV2v (p := 52) hK rfl rfl (tfX9_sidesOf hK (Nat.le_trans (by decide) hd)  eq11) rfl rfl ?_
    refine R_aload_n (p := 53) rfl (jg_ne l0 rfl) rfl ?_
    refine R_getR (p := 56) (q := 138) hK rfl rfl rfl rfl ?_
    refine R_iconst (p := 57) rfl ki_0 rfl ?_
    refine R_ialk (p := 58) hK rfl rfl (by decide) kn_0 rfl ?_
    obtain ⟨q12, eq12, h⟩ := bind_some h
    refine R_cV7v (p := 61) hK rfl rfl (tfX9_given hK (Nat.le_trans (by decide) hd)  eq12) rfl rfl ?_
    by_cases hc : q12.1 = 0
    · replace h := ite_t h hc
      refine R_ifeq_t rfl hc ?_
      refine R_iconst (p := 69) rfl ki_0 rfl ?_
      obtain rfl := Option.some.inj h
      exact R_zreturn rfl rfl (by decide) hq
    · replace h := ite_f h hc
      refine R_ifeq_f (p := 64) rfl hc rfl ?_
      refine R_iconst (p := 65) rfl ki_1 rfl ?_
      refine R_goto rfl ?_
      obtain rfl := Option.some.inj h
      exact R_zreturn rfl rfl (by decide) hq
theorem tfX9_isDry {xs : List Int32} {d : Nat} {K : Mem → List jE} (hK : Ctx shR K) (hd : 4 ≤ d) {x1 : Int32} {x2 : Int32} {m : Mem} {t : (Int32 × Mem)} (h : fX9_isDry x1 x2 m = some t) : CallD (jcs xs) d 217 [.ref 137, .int x1, .int x2] (K m) (some (.int t.1), K t.2) := by
  obtain ⟨d, rfl⟩ : ∃ z, d = z + 1 := ⟨d - 1, by omega⟩
  refine CallD_of jmt_X9_isDry rfl ⟨rfl, Nat.le_of_ble_eq_true rfl⟩ ?_
  exact ufX9_isDry hK (Nat.le_of_succ_le_succ hd) rfl rfl rfl h rfl
noncomputable def fX9_drawn (x1 : Int32) (m : Mem) : Option (Int32 × Mem) := (if ¬ x1 = 0 then some (((jUshr ((mput m 138 3 (((m 138 3) * (1103515245 : Int32)) + (12345 : Int32))) 138 3) (8 : Int32)) - (jUshr ((mput m 138 3 (((m 138 3) * (1103515245 : Int32)) + (12345 : Int32))) 138 3) (8 : Int32)) / x1 * x1), (mput m 138 3 (((m 138 3) * (1103515245 : Int32)) + (12345 : Int32)))) else none)
theorem ufX9_drawn {xs : List Int32} {d : Nat} {r : jR} {K : Mem → List jE} (hK : Ctx shR K) (hd : 0 ≤ d) {x1 : Int32} {m : Mem} {L : List (Nat × Value)} (l0 : jget L 0 = some (.ref 137)) (l1 : jget L 1 = some (.int x1)) {t : (Int32 × Mem)} (h : fX9_drawn x1 m = some t) (hq : (qIM r K) t) : RunD (jcs xs) d 2 (some .int) jt_X9_drawn (0, L, [], (K m)) r := by
  unfold fX9_drawn at h
  refine R_aload_n (p := 1) rfl l0 rfl ?_
  refine R_getR (p := 4) (q := 138) hK rfl rfl rfl rfl ?_
  refine R_iconst (p := 5) rfl ki_3 rfl ?_
  refine R_aload_n (p := 6) rfl l0 rfl ?_
  refine R_getR (p := 9) (q := 138) hK rfl rfl rfl rfl ?_
  refine R_iconst (p := 10) rfl ki_3 rfl ?_
  refine R_ialk (p := 11) hK rfl rfl (by decide) kn_3 rfl ?_
  refine R_ldc_w (p := 14) rfl kl_1103515245 rfl ?_
  refine R_imul (p := 15) rfl rfl ?_
  refine R_sipush (p := 18) rfl ks_12345 rfl ?_
  refine R_iadd (p := 19) rfl rfl ?_
  refine R_iask (p := 20) hK rfl rfl (by decide) kn_3 rfl ?_
  refine R_aload_n (p := 21) rfl l0 rfl ?_
  refine R_getR (p := 24) (q := 138) hK rfl rfl rfl rfl ?_
  refine R_iconst (p := 25) rfl ki_3 rfl ?_
  refine R_ialk (p := 26) hK rfl rfl (by decide) kn_3 rfl ?_
  refine R_bipush (p := 28) rfl kb_8 rfl ?_
  refine R_iushr (p := 29) rfl rfl ?_
  refine R_iload_n (p := 30) rfl l1 rfl ?_
  obtain ⟨b1, h⟩ := gd h
  refine R_irem (p := 31) rfl b1 rfl ?_
  obtain rfl := Option.some.inj h
  exact R_ireturn rfl rfl hq
theorem tfX9_drawn {xs : List Int32} {d : Nat} {K : Mem → List jE} (hK : Ctx shR K) (hd : 1 ≤ d) {x1 : Int32} {m : Mem} {t : (Int32 × Mem)} (h : fX9_drawn x1 m = some t) : CallD (jcs xs) d 216 [.ref 137, .int x1] (K m) (some (.int t.1), K t.2) := by
  obtain ⟨d, rfl⟩ : ∃ z, d = z + 1 := ⟨d - 1, by omega⟩
  refine CallD_of jmt_X9_drawn rfl ⟨rfl, Nat.le_of_ble_eq_true rfl⟩ ?_
  exact ufX9_drawn hK (Nat.le_of_succ_le_succ hd) rfl rfl h rfl
noncomputable def lX9_burstsAll_20 (x1 : Int32) (x2 : Int32) (s : Int32 × Mem) : Option ((Int32 × Mem) ⊕ ((Int32 × Mem) ⊕ Mem)) := (if (16 : Int32) ≤ s.1 then some (.inr (.inl ((x2 + (1 : Int32)), s.2))) else (fX9_is x2 s.2).bind fun q1 => (if q1 = 0 then some (.inl ((s.1 + (1 : Int32)), s.2)) else (fX9_is s.1 s.2).bind fun q2 => (if q2 = 0 then some (.inl ((s.1 + (1 : Int32)), s.2)) else (fX9_isWall x2 s.1 s.2).bind fun q3 => (if q3 = 0 then some (.inl ((s.1 + (1 : Int32)), s.2)) else (fX9_isDry x2 s.1 s.2).bind fun q4 => (if q4.1 = 0 then some (.inl ((s.1 + (1 : Int32)), q4.2)) else (fX9_drawn (x1 - x1 / (10 : Int32) * (10 : Int32)) q4.2).bind fun q5 => (if (x1 / (10 : Int32)) ≤ q5.1 then some (.inl ((s.1 + (1 : Int32)), q5.2)) else (fX9_canBurst x2 s.1 q5.2).bind fun q6 => (if q6 = 0 then some (.inl ((s.1 + (1 : Int32)), q5.2)) else (fX9_bursts x2 s.1 q5.2).bind fun q7 => some (.inl ((s.1 + (1 : Int32)), q7.2)))))))))
noncomputable def gX9_burstsAll_20 (xs : List Int32) (d : Nat) (r : jR) (K : Mem → List jE) (x1 : Int32) (x2 : Int32) (s : Int32 × Mem) : Prop := ∀ L, jget L 0 = some (.ref 137) → jget L 1 = some (.int x1) → jget L 2 = some (.int x2) → jget L 3 = some (.int s.1) → RunD (jcs xs) d 5 (none) jt_X9_burstsAll (20, L, [], (K s.2)) r
noncomputable def lX9_burstsAll_10 (x1 : Int32) (s : Int32 × Mem) : Option ((Int32 × Mem) ⊕ Mem) := (if (16 : Int32) ≤ s.1 then some (.inr s.2) else lp (lX9_burstsAll_20 x1 s.1) fu ((s.1 + (1 : Int32)), s.2))
noncomputable def gX9_burstsAll_10 (xs : List Int32) (d : Nat) (r : jR) (K : Mem → List jE) (x1 : Int32) (s : Int32 × Mem) : Prop := ∀ L, jget L 0 = some (.ref 137) → jget L 1 = some (.int x1) → jget L 2 = some (.int s.1) → RunD (jcs xs) d 5 (none) jt_X9_burstsAll (10, L, [], (K s.2)) r
noncomputable def fX9_burstsAll (m : Mem) : Option Mem := lp (lX9_burstsAll_10 (m 138 6)) fu ((0 : Int32), m)
theorem BX9_burstsAll_20 {xs : List Int32} {d : Nat} {r : jR} {K : Mem → List jE} (hK : Ctx shR K) (hd : 5 ≤ d)  {x1 : Int32} {x2 : Int32} (s : Int32 × Mem) {t : (Int32 × Mem) ⊕ ((Int32 × Mem) ⊕ Mem)} (h : lX9_burstsAll_20 x1 x2 s = some t) (hq : sQ (gX9_burstsAll_20 xs d r K x1 x2) (sQ (gX9_burstsAll_10 xs d r K x1) (qM r K)) t) : gX9_burstsAll_20 xs d r K x1 x2 s := by
  intro L l0 l1 l2 l3
  unfold lX9_burstsAll_20 at h
  refine R_iload_n (p := 21) rfl l3 rfl ?_
  refine R_bipush (p := 23) rfl kb_16 rfl ?_
  by_cases hc : (16 : Int32) ≤ s.1
  · replace h := ite_t h hc
    refine R_icge_t rfl hc ?_
    refine R_iinc (p := 101) rfl l2 rfl ki_1 rfl ?_
    refine R_goto rfl ?_
    obtain rfl := Option.some.inj h
    exact hq _ (jg_ne l0 rfl) (jg_ne l1 rfl) jg_self
  · replace h := ite_f h hc
    refine R_icge_f (p := 26) rfl hc rfl ?_
    refine R_aload_n (p := 27) rfl l0 rfl ?_
    refine R_iload_n (p := 28) rfl l2 rfl ?_
    obtain ⟨q1, eq1, h⟩ := bind_some h
    refine R_cV2v (p := 31) hK rfl rfl (tfX9_is hK (Nat.le_trans (by decide) hd)  eq1) rfl rfl ?_
    by_cases hc : q1 = 0
    · replace h := ite_t h hc
      refine R_ifeq_t rfl hc ?_
      refine R_iinc (p := 95) rfl l3 rfl ki_1 rfl ?_
      refine R_goto rfl ?_
      obtain rfl := Option.some.inj h
      exact hq _ (jg_ne l0 rfl) (jg_ne l1 rfl) (jg_ne l2 rfl) jg_self
    · replace h := ite_f h hc
      refine R_ifeq_f (p := 34) rfl hc rfl ?_
      refine R_aload_n (p := 35) rfl l0 rfl ?_
      refine R_iload_n (p := 36) rfl l3 rfl ?_
      obtain ⟨q2, eq2, h⟩ := bind_some h
      refine R_cV2v (p := 39) hK rfl rfl (tfX9_is hK (Nat.le_trans (by decide) hd)  eq2) rfl rfl ?_
      by_cases hc : q2 = 0
      · replace h := ite_t h hc
        refine R_ifeq_t rfl hc ?_
        refine R_iinc (p := 95) rfl l3 rfl ki_1 rfl ?_
        refine R_goto rfl ?_
        obtain rfl := Option.some.inj h
        exact hq _ (jg_ne l0 rfl) (jg_ne l1 rfl) (jg_ne l2 rfl) jg_self
      · replace h := ite_f h hc
        refine R_ifeq_f (p := 42) rfl hc rfl ?_
        refine R_aload_n (p := 43) rfl l0 rfl ?_
        refine R_iload_n (p := 44) rfl l2 rfl ?_
        refine R_iload_n (p := 45) rfl l3 rfl ?_
        obtain ⟨q3, eq3, h⟩ := bind_some h
        refine R_cV3v (p := 48) hK rfl rfl (tfX9_isWall hK (Nat.le_trans (by decide) hd)  eq3) rfl rfl ?_
        by_cases hc : q3 = 0
        · replace h := ite_t h hc
          refine R_ifeq_t rfl hc ?_
          refine R_iinc (p := 95) rfl l3 rfl ki_1 rfl ?_
          refine R_goto rfl ?_
          obtain rfl := Option.some.inj h
          exact hq _ (jg_ne l0 rfl) (jg_ne l1 rfl) (jg_ne l2 rfl) jg_self
        · replace h := ite_f h hc
          refine R_ifeq_f (p := 51) rfl hc rfl ?_
          refine R_aload_n (p := 52) rfl l0 rfl ?_
          refine R_iload_n (p := 53) rfl l2 rfl ?_
          refine R_iload_n (p := 54) rfl l3 rfl ?_
          obtain ⟨q4, eq4, h⟩ := bind_some h
          refine R_cV3v (p := 57) hK rfl rfl (tfX9_isDry hK (Nat.le_trans (by decide) hd)  eq4) rfl rfl ?_
          by_cases hc : q4.1 = 0
          · replace h := ite_t h hc
            refine R_ifeq_t rfl hc ?_
            refine R_iinc (p := 95) rfl l3 rfl ki_1 rfl ?_
            refine R_goto rfl ?_
            obtain rfl := Option.some.inj h
            exact hq _ (jg_ne l0 rfl) (jg_ne l1 rfl) (jg_ne l2 rfl) jg_self
          · replace h := ite_f h hc
            refine R_ifeq_f (p := 60) rfl hc rfl ?_
            refine R_aload_n (p := 61) rfl l0 rfl ?_
            refine R_iload_n (p := 62) rfl l1 rfl ?_
            refine R_bipush (p := 64) rfl kb_10 rfl ?_
            refine R_irem (p := 65) rfl (by decide) rfl ?_
            obtain ⟨q5, eq5, h⟩ := bind_some h
            refine R_cV2v (p := 68) hK rfl rfl (tfX9_drawn hK (Nat.le_trans (by decide) hd)  eq5) rfl rfl ?_
            refine R_iload_n (p := 69) rfl l1 rfl ?_
            refine R_bipush (p := 71) rfl kb_10 rfl ?_
            refine R_idiv (p := 72) rfl (by decide) rfl ?_
            by_cases hc : (x1 / (10 : Int32)) ≤ q5.1
            · replace h := ite_t h hc
              refine R_icge_t rfl hc ?_
              refine R_iinc (p := 95) rfl l3 rfl ki_1 rfl ?_
              refine R_goto rfl ?_
              obtain rfl := Option.some.inj h
              exact hq _ (jg_ne l0 rfl) (jg_ne l1 rfl) (jg_ne l2 rfl) jg_self
            · replace h := ite_f h hc
              refine R_icge_f (p := 75) rfl hc rfl ?_
              refine R_aload_n (p := 76) rfl l0 rfl ?_
              refine R_iload_n (p := 77) rfl l2 rfl ?_
              refine R_iload_n (p := 78) rfl l3 rfl ?_
              obtain ⟨q6, eq6, h⟩ := bind_some h
              refine R_cV3v (p := 81) hK rfl rfl (tfX9_canBurst hK (Nat.le_trans (by decide) hd)  eq6) rfl rfl ?_
              by_cases hc : q6 = 0
              · replace h := ite_t h hc
                refine R_ifeq_t rfl hc ?_
                refine R_iinc (p := 95) rfl l3 rfl ki_1 rfl ?_
                refine R_goto rfl ?_
                obtain rfl := Option.some.inj h
                exact hq _ (jg_ne l0 rfl) (jg_ne l1 rfl) (jg_ne l2 rfl) jg_self
              · replace h := ite_f h hc
                refine R_ifeq_f (p := 84) rfl hc rfl ?_
                refine R_aload_n (p := 85) rfl l0 rfl ?_
                refine R_iload_n (p := 86) rfl l2 rfl ?_
                refine R_iload_n (p := 87) rfl l3 rfl ?_
                obtain ⟨q7, eq7, h⟩ := bind_some h
                refine R_cV3v (p := 90) hK rfl rfl (tfX9_bursts hK (Nat.le_trans (by decide) hd)  eq7) rfl rfl ?_
                refine R_istore (p := 92) rfl rfl rfl ?_
                refine R_iinc (p := 95) rfl (jg_ne l3 rfl) rfl ki_1 rfl ?_
                refine R_goto rfl ?_
                obtain rfl := Option.some.inj h
                exact hq _ (jg_ne (jg_ne l0 rfl) rfl) (jg_ne (jg_ne l1 rfl) rfl) (jg_ne (jg_ne l2 rfl) rfl) jg_self
theorem LX9_burstsAll_20 {xs : List Int32} {d : Nat} {r : jR} {K : Mem → List jE} (hK : Ctx shR K) (hd : 5 ≤ d)  {x1 : Int32} {x2 : Int32} (n : Nat) (s : Int32 × Mem) {t : ((Int32 × Mem) ⊕ Mem)} (h : lp (lX9_burstsAll_20 x1 x2) n s = some t) (hq : (sQ (gX9_burstsAll_10 xs d r K x1) (qM r K)) t) : gX9_burstsAll_20 xs d r K x1 x2 s := lp_ind (G := gX9_burstsAll_20 xs d r K x1 x2) (Qe := (sQ (gX9_burstsAll_10 xs d r K x1) (qM r K))) (fun s t h hq => BX9_burstsAll_20 hK hd s h hq) n s t h hq
theorem BX9_burstsAll_10 {xs : List Int32} {d : Nat} {r : jR} {K : Mem → List jE} (hK : Ctx shR K) (hd : 5 ≤ d)  {x1 : Int32} (s : Int32 × Mem) {t : (Int32 × Mem) ⊕ Mem} (h : lX9_burstsAll_10 x1 s = some t) (hq : sQ (gX9_burstsAll_10 xs d r K x1) (qM r K) t) : gX9_burstsAll_10 xs d r K x1 s := by
  intro L l0 l1 l2
  unfold lX9_burstsAll_10 at h
  refine R_iload_n (p := 11) rfl l2 rfl ?_
  refine R_bipush (p := 13) rfl kb_16 rfl ?_
  by_cases hc : (16 : Int32) ≤ s.1
  · replace h := ite_t h hc
    refine R_icge_t rfl hc ?_
    obtain rfl := Option.some.inj h
    exact R_return rfl rfl hq
  · replace h := ite_f h hc
    refine R_icge_f (p := 16) rfl hc rfl ?_
    refine R_iload_n (p := 17) rfl l2 rfl ?_
    refine R_iconst (p := 18) rfl ki_1 rfl ?_
    refine R_iadd (p := 19) rfl rfl ?_
    refine R_istore_n (p := 20) rfl rfl rfl ?_
    exact LX9_burstsAll_20 hK hd _ _ h hq _ (jg_ne l0 rfl) (jg_ne l1 rfl) (jg_ne l2 rfl) jg_self
theorem LX9_burstsAll_10 {xs : List Int32} {d : Nat} {r : jR} {K : Mem → List jE} (hK : Ctx shR K) (hd : 5 ≤ d)  {x1 : Int32} (n : Nat) (s : Int32 × Mem) {t : Mem} (h : lp (lX9_burstsAll_10 x1) n s = some t) (hq : (qM r K) t) : gX9_burstsAll_10 xs d r K x1 s := lp_ind (G := gX9_burstsAll_10 xs d r K x1) (Qe := (qM r K)) (fun s t h hq => BX9_burstsAll_10 hK hd s h hq) n s t h hq
theorem ufX9_burstsAll {xs : List Int32} {d : Nat} {r : jR} {K : Mem → List jE} (hK : Ctx shR K) (hd : 5 ≤ d) {m : Mem} {L : List (Nat × Value)} (l0 : jget L 0 = some (.ref 137)) {t : Mem} (h : fX9_burstsAll m = some t) (hq : (qM r K) t) : RunD (jcs xs) d 5 (none) jt_X9_burstsAll (0, L, [], (K m)) r := by
  unfold fX9_burstsAll at h
  refine R_aload_n (p := 1) rfl l0 rfl ?_
  refine R_getR (p := 4) (q := 138) hK rfl rfl rfl rfl ?_
  refine R_bipush (p := 6) rfl kb_6 rfl ?_
  refine R_ialk (p := 7) hK rfl rfl (by decide) kn_6 rfl ?_
  refine R_istore_n (p := 8) rfl rfl rfl ?_
  refine R_iconst (p := 9) rfl ki_0 rfl ?_
  refine R_istore_n (p := 10) rfl rfl rfl ?_
  exact LX9_burstsAll_10 hK hd _ _ h hq _ (jg_ne (jg_ne l0 rfl) rfl) (jg_ne jg_self rfl) jg_self
theorem tfX9_burstsAll {xs : List Int32} {d : Nat} {K : Mem → List jE} (hK : Ctx shR K) (hd : 6 ≤ d) {m : Mem} {t : Mem} (h : fX9_burstsAll m = some t) : CallD (jcs xs) d 218 [.ref 137] (K m) (none, K t) := by
  obtain ⟨d, rfl⟩ : ∃ z, d = z + 1 := ⟨d - 1, by omega⟩
  refine CallD_of jmt_X9_burstsAll rfl ⟨rfl, Nat.le_of_ble_eq_true rfl⟩ ?_
  exact ufX9_burstsAll hK (Nat.le_of_succ_le_succ hd) rfl h rfl
noncomputable def lX9_turnsFirst_18 (x1 : Int32) (x2 : Int32) (x3 : Int32) (s : Int32 × Int32 × Mem) : Option ((Int32 × Int32 × Mem) ⊕ Mem) := (if x3 ≤ s.2.1 then some (.inr s.2.2) else (if s.1 = 0 then (fX9_at x1 (x2 + s.2.1) s.2.2).bind fun q3 => (if q3 = (16 : Int32) then some (.inl (s.1, (s.2.1 + (1 : Int32)), s.2.2)) else (fX9_canTurn x1 q3 s.2.2).bind fun q4 => (if q4 = 0 then some (.inl (s.1, (s.2.1 + (1 : Int32)), s.2.2)) else (fX9_turns x1 q3 s.2.2).bind fun q5 => some (.inl ((1 : Int32), (s.2.1 + (1 : Int32)), q5)))) else some (.inr s.2.2)))
noncomputable def gX9_turnsFirst_18 (xs : List Int32) (d : Nat) (r : jR) (K : Mem → List jE) (x1 : Int32) (x2 : Int32) (x3 : Int32) (s : Int32 × Int32 × Mem) : Prop := ∀ L, jget L 0 = some (.ref 137) → jget L 1 = some (.int x1) → jget L 2 = some (.int x2) → jget L 3 = some (.int x3) → jget L 4 = some (.int s.1) → jget L 5 = some (.int s.2.1) → RunD (jcs xs) d 7 (none) jt_X9_turnsFirst (18, L, [], (K s.2.2)) r
noncomputable def fX9_turnsFirst (x1 : Int32) (m : Mem) : Option Mem := (fX9_leastIn x1 m).bind fun q1 => (fX9_sidesOf x1 m).bind fun q2 => lp (lX9_turnsFirst_18 x1 q1 q2) fu ((0 : Int32), (0 : Int32), m)
theorem BX9_turnsFirst_18 {xs : List Int32} {d : Nat} {r : jR} {K : Mem → List jE} (hK : Ctx shR K) (hd : 5 ≤ d)  {x1 : Int32} {x2 : Int32} {x3 : Int32} (s : Int32 × Int32 × Mem) {t : (Int32 × Int32 × Mem) ⊕ Mem} (h : lX9_turnsFirst_18 x1 x2 x3 s = some t) (hq : sQ (gX9_turnsFirst_18 xs d r K x1 x2 x3) (qM r K) t) : gX9_turnsFirst_18 xs d r K x1 x2 x3 s := by
  intro L l0 l1 l2 l3 l4 l5
  unfold lX9_turnsFirst_18 at h
  refine R_iload (p := 20) rfl l5 rfl ?_
  refine R_iload_n (p := 21) rfl l3 rfl ?_
  by_cases hc : x3 ≤ s.2.1
  · replace h := ite_t h hc
    refine R_icge_t rfl hc ?_
    obtain rfl := Option.some.inj h
    exact R_return rfl rfl hq
  · replace h := ite_f h hc
    refine R_icge_f (p := 24) rfl hc rfl ?_
    refine R_iload (p := 26) rfl l4 rfl ?_
    by_cases hc : s.1 = 0
    · replace h := ite_t h hc
      refine R_ifne_f (p := 29) rfl (fun z => z hc) rfl ?_
      refine R_aload_n (p := 30) rfl l0 rfl ?_
      refine R_iload_n (p := 31) rfl l1 rfl ?_
      refine R_iload_n (p := 32) rfl l2 rfl ?_
      refine R_iload (p := 34) rfl l5 rfl ?_
      refine R_iadd (p := 35) rfl rfl ?_
      obtain ⟨q3, eq3, h⟩ := bind_some h
      refine R_cV3v (p := 38) hK rfl rfl (tfX9_at hK (Nat.le_trans (by decide) hd)  eq3) rfl rfl ?_
      refine R_istore (p := 40) rfl rfl rfl ?_
      refine R_iload (p := 42) rfl jg_self rfl ?_
      refine R_bipush (p := 44) rfl kb_16 rfl ?_
      by_cases hc : q3 = (16 : Int32)
      · replace h := ite_t h hc
        refine R_iceq_t rfl hc ?_
        refine R_iinc (p := 70) rfl (jg_ne l5 rfl) rfl ki_1 rfl ?_
        refine R_goto rfl ?_
        obtain rfl := Option.some.inj h
        exact hq _ (jg_ne (jg_ne l0 rfl) rfl) (jg_ne (jg_ne l1 rfl) rfl) (jg_ne (jg_ne l2 rfl) rfl) (jg_ne (jg_ne l3 rfl) rfl) (jg_ne (jg_ne l4 rfl) rfl) jg_self
      · replace h := ite_f h hc
        refine R_iceq_f (p := 47) rfl hc rfl ?_
        refine R_aload_n (p := 48) rfl (jg_ne l0 rfl) rfl ?_
        refine R_iload_n (p := 49) rfl (jg_ne l1 rfl) rfl ?_
        refine R_iload (p := 51) rfl jg_self rfl ?_
        obtain ⟨q4, eq4, h⟩ := bind_some h
        refine R_cV3v (p := 54) hK rfl rfl (tfX9_canTurn hK (Nat.le_trans (by decide) hd)  eq4) rfl rfl ?_
        by_cases hc : q4 = 0
        · replace h := ite_t h hc
          refine R_ifeq_t rfl hc ?_
          refine R_iinc (p := 70) rfl (jg_ne l5 rfl) rfl ki_1 rfl ?_
          refine R_goto rfl ?_
          obtain rfl := Option.some.inj h
          exact hq _ (jg_ne (jg_ne l0 rfl) rfl) (jg_ne (jg_ne l1 rfl) rfl) (jg_ne (jg_ne l2 rfl) rfl) (jg_ne (jg_ne l3 rfl) rfl) (jg_ne (jg_ne l4 rfl) rfl) jg_self
        · replace h := ite_f h hc
          refine R_ifeq_f (p := 57) rfl hc rfl ?_
          refine R_aload_n (p := 58) rfl (jg_ne l0 rfl) rfl ?_
          refine R_iload_n (p := 59) rfl (jg_ne l1 rfl) rfl ?_
          refine R_iload (p := 61) rfl jg_self rfl ?_
          obtain ⟨q5, eq5, h⟩ := bind_some h
          refine R_cV3n (p := 64) hK rfl rfl (tfX9_turns hK (Nat.le_trans (by decide) hd)  eq5) rfl rfl ?_
          refine R_iconst (p := 65) rfl ki_1 rfl ?_
          refine R_istore (p := 67) rfl rfl rfl ?_
          refine R_iinc (p := 70) rfl (jg_ne (jg_ne l5 rfl) rfl) rfl ki_1 rfl ?_
          refine R_goto rfl ?_
          obtain rfl := Option.some.inj h
          exact hq _ (jg_ne (jg_ne (jg_ne l0 rfl) rfl) rfl) (jg_ne (jg_ne (jg_ne l1 rfl) rfl) rfl) (jg_ne (jg_ne (jg_ne l2 rfl) rfl) rfl) (jg_ne (jg_ne (jg_ne l3 rfl) rfl) rfl) (jg_ne jg_self rfl) jg_self
    · replace h := ite_f h hc
      refine R_ifne_t rfl hc ?_
      obtain rfl := Option.some.inj h
      exact R_return rfl rfl hq
theorem LX9_turnsFirst_18 {xs : List Int32} {d : Nat} {r : jR} {K : Mem → List jE} (hK : Ctx shR K) (hd : 5 ≤ d)  {x1 : Int32} {x2 : Int32} {x3 : Int32} (n : Nat) (s : Int32 × Int32 × Mem) {t : Mem} (h : lp (lX9_turnsFirst_18 x1 x2 x3) n s = some t) (hq : (qM r K) t) : gX9_turnsFirst_18 xs d r K x1 x2 x3 s := lp_ind (G := gX9_turnsFirst_18 xs d r K x1 x2 x3) (Qe := (qM r K)) (fun s t h hq => BX9_turnsFirst_18 hK hd s h hq) n s t h hq
theorem ufX9_turnsFirst {xs : List Int32} {d : Nat} {r : jR} {K : Mem → List jE} (hK : Ctx shR K) (hd : 5 ≤ d) {x1 : Int32} {m : Mem} {L : List (Nat × Value)} (l0 : jget L 0 = some (.ref 137)) (l1 : jget L 1 = some (.int x1)) {t : Mem} (h : fX9_turnsFirst x1 m = some t) (hq : (qM r K) t) : RunD (jcs xs) d 7 (none) jt_X9_turnsFirst (0, L, [], (K m)) r := by
  unfold fX9_turnsFirst at h
  refine R_aload_n (p := 1) rfl l0 rfl ?_
  refine R_iload_n (p := 2) rfl l1 rfl ?_
  obtain ⟨q1, eq1, h⟩ := bind_some h
  refine R_cV2v (p := 5) hK rfl rfl (tfX9_leastIn hK (Nat.le_trans (by decide) hd)  eq1) rfl rfl ?_
  refine R_istore_n (p := 6) rfl rfl rfl ?_
  refine R_aload_n (p := 7) rfl (jg_ne l0 rfl) rfl ?_
  refine R_iload_n (p := 8) rfl (jg_ne l1 rfl) rfl ?_
  obtain ⟨q2, eq2, h⟩ := bind_some h
  refine R_cV2v (p := 11) hK rfl rfl (tfX9_sidesOf hK (Nat.le_trans (by decide) hd)  eq2) rfl rfl ?_
  refine R_istore_n (p := 12) rfl rfl rfl ?_
  refine R_iconst (p := 13) rfl ki_0 rfl ?_
  refine R_istore (p := 15) rfl rfl rfl ?_
  refine R_iconst (p := 16) rfl ki_0 rfl ?_
  refine R_istore (p := 18) rfl rfl rfl ?_
  exact LX9_turnsFirst_18 hK hd _ _ h hq _ (jg_ne (jg_ne (jg_ne (jg_ne l0 rfl) rfl) rfl) rfl) (jg_ne (jg_ne (jg_ne (jg_ne l1 rfl) rfl) rfl) rfl) (jg_ne (jg_ne (jg_ne jg_self rfl) rfl) rfl) (jg_ne (jg_ne jg_self rfl) rfl) (jg_ne jg_self rfl) jg_self
theorem tfX9_turnsFirst {xs : List Int32} {d : Nat} {K : Mem → List jE} (hK : Ctx shR K) (hd : 6 ≤ d) {x1 : Int32} {m : Mem} {t : Mem} (h : fX9_turnsFirst x1 m = some t) : CallD (jcs xs) d 219 [.ref 137, .int x1] (K m) (none, K t) := by
  obtain ⟨d, rfl⟩ : ∃ z, d = z + 1 := ⟨d - 1, by omega⟩
  refine CallD_of jmt_X9_turnsFirst rfl ⟨rfl, Nat.le_of_ble_eq_true rfl⟩ ?_
  exact ufX9_turnsFirst hK (Nat.le_of_succ_le_succ hd) rfl rfl h rfl
noncomputable def lX9_ticks_14 (s : Int32 × Mem) : Option ((Int32 × Mem) ⊕ Mem) := (if (16 : Int32) ≤ s.1 then some (.inr (mput s.2 138 0 ((s.2 138 0) + (1 : Int32)))) else (fX9_is s.1 s.2).bind fun q4 => (if q4 = 0 then some (.inl ((s.1 + (1 : Int32)), s.2)) else (fX9_of s.1 (2 : Int32) s.2).bind fun q5 => (if q5 = 0 then (fX9_sidesOf s.1 s.2).bind fun q6 => (if q6 ≤ (3 : Int32) then (fX9_sidesOf s.1 s.2).bind fun q7 => (if q7 = (3 : Int32) then (fX9_canVanish s.1 s.2).bind fun q8 => (if q8 = 0 then some (.inl ((s.1 + (1 : Int32)), s.2)) else (fX9_vanishes s.1 s.2).bind fun q9 => some (.inl ((s.1 + (1 : Int32)), q9))) else some (.inl ((s.1 + (1 : Int32)), s.2))) else (fX9_turnsFirst s.1 s.2).bind fun q10 => some (.inl ((s.1 + (1 : Int32)), q10))) else some (.inl ((s.1 + (1 : Int32)), s.2)))))
noncomputable def gX9_ticks_14 (xs : List Int32) (d : Nat) (r : jR) (K : Mem → List jE) (s : Int32 × Mem) : Prop := ∀ L, jget L 0 = some (.ref 137) → jget L 1 = some (.int s.1) → RunD (jcs xs) d 2 (none) jt_X9_ticks (14, L, [], (K s.2)) r
noncomputable def fX9_ticks (m : Mem) : Option Mem := (fX9_passesAll m).bind fun q1 => (fX9_runs q1).bind fun q2 => (fX9_burstsAll q2).bind fun q3 => lp (lX9_ticks_14) fu ((0 : Int32), q3)
theorem BX9_ticks_14 {xs : List Int32} {d : Nat} {r : jR} {K : Mem → List jE} (hK : Ctx shR K) (hd : 6 ≤ d)  (s : Int32 × Mem) {t : (Int32 × Mem) ⊕ Mem} (h : lX9_ticks_14 s = some t) (hq : sQ (gX9_ticks_14 xs d r K) (qM r K) t) : gX9_ticks_14 xs d r K s := by
  intro L l0 l1
  unfold lX9_ticks_14 at h
  refine R_iload_n (p := 15) rfl l1 rfl ?_
  refine R_bipush (p := 17) rfl kb_16 rfl ?_
  by_cases hc : (16 : Int32) ≤ s.1
  · replace h := ite_t h hc
    refine R_icge_t rfl hc ?_
    refine R_aload_n (p := 83) rfl l0 rfl ?_
    refine R_getR (p := 86) (q := 138) hK rfl rfl rfl rfl ?_
    refine R_iconst (p := 87) rfl ki_0 rfl ?_
    refine R_dup2ia (p := 88) rfl rfl ?_
    refine R_ialk (p := 89) hK rfl rfl (by decide) kn_0 rfl ?_
    refine R_iconst (p := 90) rfl ki_1 rfl ?_
    refine R_iadd (p := 91) rfl rfl ?_
    refine R_iask (p := 92) hK rfl rfl (by decide) kn_0 rfl ?_
    obtain rfl := Option.some.inj h
    exact R_return rfl rfl hq
  · replace h := ite_f h hc
    refine R_icge_f (p := 20) rfl hc rfl ?_
    refine R_aload_n (p := 21) rfl l0 rfl ?_
    refine R_iload_n (p := 22) rfl l1 rfl ?_
    obtain ⟨q4, eq4, h⟩ := bind_some h
    refine R_cV2v (p := 25) hK rfl rfl (tfX9_is hK (Nat.le_trans (by decide) hd)  eq4) rfl rfl ?_
    by_cases hc : q4 = 0
    · replace h := ite_t h hc
      refine R_ifeq_t rfl hc ?_
      refine R_iinc (p := 79) rfl l1 rfl ki_1 rfl ?_
      refine R_goto rfl ?_
      obtain rfl := Option.some.inj h
      exact hq _ (jg_ne l0 rfl) jg_self
    · replace h := ite_f h hc
      refine R_ifeq_f (p := 28) rfl hc rfl ?_
      refine R_aload_n (p := 29) rfl l0 rfl ?_
      refine R_iload_n (p := 30) rfl l1 rfl ?_
      refine R_iconst (p := 31) rfl ki_2 rfl ?_
      obtain ⟨q5, eq5, h⟩ := bind_some h
      refine R_cV3v (p := 34) hK rfl rfl (tfX9_of hK (Nat.le_trans (by decide) hd)  eq5) rfl rfl ?_
      by_cases hc : q5 = 0
      · replace h := ite_t h hc
        refine R_ifne_f (p := 37) rfl (fun z => z hc) rfl ?_
        refine R_aload_n (p := 38) rfl l0 rfl ?_
        refine R_iload_n (p := 39) rfl l1 rfl ?_
        obtain ⟨q6, eq6, h⟩ := bind_some h
        refine R_cV2v (p := 42) hK rfl rfl (tfX9_sidesOf hK (Nat.le_trans (by decide) hd)  eq6) rfl rfl ?_
        refine R_iconst (p := 43) rfl ki_3 rfl ?_
        by_cases hc : q6 ≤ (3 : Int32)
        · replace h := ite_t h hc
          refine R_icle_t rfl hc ?_
          refine R_aload_n (p := 55) rfl l0 rfl ?_
          refine R_iload_n (p := 56) rfl l1 rfl ?_
          obtain ⟨q7, eq7, h⟩ := bind_some h
          refine R_cV2v (p := 59) hK rfl rfl (tfX9_sidesOf hK (Nat.le_trans (by decide) hd)  eq7) rfl rfl ?_
          refine R_iconst (p := 60) rfl ki_3 rfl ?_
          by_cases hc : q7 = (3 : Int32)
          · replace h := ite_t h hc
            refine R_icne_f (p := 63) rfl (fun z => z hc) rfl ?_
            refine R_aload_n (p := 64) rfl l0 rfl ?_
            refine R_iload_n (p := 65) rfl l1 rfl ?_
            obtain ⟨q8, eq8, h⟩ := bind_some h
            refine R_cV2v (p := 68) hK rfl rfl (tfX9_canVanish hK (Nat.le_trans (by decide) hd)  eq8) rfl rfl ?_
            by_cases hc : q8 = 0
            · replace h := ite_t h hc
              refine R_ifeq_t rfl hc ?_
              refine R_iinc (p := 79) rfl l1 rfl ki_1 rfl ?_
              refine R_goto rfl ?_
              obtain rfl := Option.some.inj h
              exact hq _ (jg_ne l0 rfl) jg_self
            · replace h := ite_f h hc
              refine R_ifeq_f (p := 71) rfl hc rfl ?_
              refine R_aload_n (p := 72) rfl l0 rfl ?_
              refine R_iload_n (p := 73) rfl l1 rfl ?_
              obtain ⟨q9, eq9, h⟩ := bind_some h
              refine R_cV2n (p := 76) hK rfl rfl (tfX9_vanishes hK (Nat.le_trans (by decide) hd)  eq9) rfl rfl ?_
              refine R_iinc (p := 79) rfl l1 rfl ki_1 rfl ?_
              refine R_goto rfl ?_
              obtain rfl := Option.some.inj h
              exact hq _ (jg_ne l0 rfl) jg_self
          · replace h := ite_f h hc
            refine R_icne_t rfl hc ?_
            refine R_iinc (p := 79) rfl l1 rfl ki_1 rfl ?_
            refine R_goto rfl ?_
            obtain rfl := Option.some.inj h
            exact hq _ (jg_ne l0 rfl) jg_self
        · replace h := ite_f h hc
          refine R_icle_f (p := 46) rfl hc rfl ?_
          refine R_aload_n (p := 47) rfl l0 rfl ?_
          refine R_iload_n (p := 48) rfl l1 rfl ?_
          obtain ⟨q10, eq10, h⟩ := bind_some h
          refine R_cV2n (p := 51) hK rfl rfl (tfX9_turnsFirst hK (Nat.le_trans (by decide) hd)  eq10) rfl rfl ?_
          refine R_goto rfl ?_
          refine R_iinc (p := 79) rfl l1 rfl ki_1 rfl ?_
          refine R_goto rfl ?_
          obtain rfl := Option.some.inj h
          exact hq _ (jg_ne l0 rfl) jg_self
      · replace h := ite_f h hc
        refine R_ifne_t rfl hc ?_
        refine R_iinc (p := 79) rfl l1 rfl ki_1 rfl ?_
        refine R_goto rfl ?_
        obtain rfl := Option.some.inj h
        exact hq _ (jg_ne l0 rfl) jg_self
theorem LX9_ticks_14 {xs : List Int32} {d : Nat} {r : jR} {K : Mem → List jE} (hK : Ctx shR K) (hd : 6 ≤ d)  (n : Nat) (s : Int32 × Mem) {t : Mem} (h : lp (lX9_ticks_14) n s = some t) (hq : (qM r K) t) : gX9_ticks_14 xs d r K s := lp_ind (G := gX9_ticks_14 xs d r K) (Qe := (qM r K)) (fun s t h hq => BX9_ticks_14 hK hd s h hq) n s t h hq
theorem ufX9_ticks {xs : List Int32} {d : Nat} {r : jR} {K : Mem → List jE} (hK : Ctx shR K) (hd : 6 ≤ d) {m : Mem} {L : List (Nat × Value)} (l0 : jget L 0 = some (.ref 137)) {t : Mem} (h : fX9_ticks m = some t) (hq : (qM r K) t) : RunD (jcs xs) d 2 (none) jt_X9_ticks (0, L, [], (K m)) r := by
  unfold fX9_ticks at h
  refine R_aload_n (p := 1) rfl l0 rfl ?_
  obtain ⟨q1, eq1, h⟩ := bind_some h
  refine R_cV1n (p := 4) hK rfl rfl (tfX9_passesAll hK (Nat.le_trans (by decide) hd)  eq1) rfl rfl ?_
  refine R_aload_n (p := 5) rfl l0 rfl ?_
  obtain ⟨q2, eq2, h⟩ := bind_some h
  refine R_cV1n (p := 8) hK rfl rfl (tfX9_runs hK (Nat.le_trans (by decide) hd)  eq2) rfl rfl ?_
  refine R_aload_n (p := 9) rfl l0 rfl ?_
  obtain ⟨q3, eq3, h⟩ := bind_some h
  refine R_cV1n (p := 12) hK rfl rfl (tfX9_burstsAll hK (Nat.le_trans (by decide) hd)  eq3) rfl rfl ?_
  refine R_iconst (p := 13) rfl ki_0 rfl ?_
  refine R_istore_n (p := 14) rfl rfl rfl ?_
  exact LX9_ticks_14 hK hd _ _ h hq _ (jg_ne l0 rfl) jg_self
theorem tfX9_ticks {xs : List Int32} {d : Nat} {K : Mem → List jE} (hK : Ctx shR K) (hd : 7 ≤ d) {m : Mem} {t : Mem} (h : fX9_ticks m = some t) : CallD (jcs xs) d 220 [.ref 137] (K m) (none, K t) := by
  obtain ⟨d, rfl⟩ : ∃ z, d = z + 1 := ⟨d - 1, by omega⟩
  refine CallD_of jmt_X9_ticks rfl ⟨rfl, Nat.le_of_ble_eq_true rfl⟩ ?_
  exact ufX9_ticks hK (Nat.le_of_succ_le_succ hd) rfl h rfl
noncomputable def lX9_tick_40 (x1 : Int32) (s : Int32 × Mem) : Option ((Int32 × Mem) ⊕ (Int32 × Mem)) := (if x1 ≤ s.1 then (fX9_many s.2).bind fun q3 => some (.inr (q3, s.2)) else (fX9_ticks s.2).bind fun q4 => some (.inl ((s.1 + (1 : Int32)), q4)))
noncomputable def gX9_tick_40 (xs : List Int32) (d : Nat) (r : jR) (K : Mem → List jE) (x1 : Int32) (s : Int32 × Mem) : Prop := ∀ L, jget L 0 = some (.ref 137) → jget L 1 = some (.int x1) → jget L 2 = some (.int s.1) → RunD (jcs xs) d 3 (some .int) jt_X9_tick (40, L, [], (K s.2)) r
noncomputable def fX9_tick (x1 : Int32) (m : Mem) : Option (Int32 × Mem) := (if (fX9_within x1 (1 : Int32) (60 : Int32)) = 0 then (fX9_finding (-1000001 : Int32) m).bind fun q2 => some (q2.1, q2.2) else (if ((m 138 0) + x1) ≤ (9999 : Int32) then lp (lX9_tick_40 x1) fu ((0 : Int32), m) else (fX9_finding (-1000003 : Int32) m).bind fun q5 => some (q5.1, q5.2)))
theorem BX9_tick_40 {xs : List Int32} {d : Nat} {r : jR} {K : Mem → List jE} (hK : Ctx shR K) (hd : 7 ≤ d)  {x1 : Int32} (s : Int32 × Mem) {t : (Int32 × Mem) ⊕ (Int32 × Mem)} (h : lX9_tick_40 x1 s = some t) (hq : sQ (gX9_tick_40 xs d r K x1) (qIM r K) t) : gX9_tick_40 xs d r K x1 s := by
  intro L l0 l1 l2
  unfold lX9_tick_40 at h
  refine R_iload_n (p := 41) rfl l2 rfl ?_
  refine R_iload_n (p := 42) rfl l1 rfl ?_
  by_cases hc : x1 ≤ s.1
  · replace h := ite_t h hc
    refine R_icge_t rfl hc ?_
    refine R_aload_n (p := 56) rfl l0 rfl ?_
    obtain ⟨q3, eq3, h⟩ := bind_some h
    refine R_cV1v (p := 59) hK rfl rfl (tfX9_many hK (Nat.le_trans (by decide) hd)  eq3) rfl rfl ?_
    obtain rfl := Option.some.inj h
    exact R_ireturn rfl rfl hq
  · replace h := ite_f h hc
    refine R_icge_f (p := 45) rfl hc rfl ?_
    refine R_aload_n (p := 46) rfl l0 rfl ?_
    obtain ⟨q4, eq4, h⟩ := bind_some h
    refine R_cV1n (p := 49) hK rfl rfl (tfX9_ticks hK (Nat.le_trans (by decide) hd)  eq4) rfl rfl ?_
    refine R_iinc (p := 52) rfl l2 rfl ki_1 rfl ?_
    refine R_goto rfl ?_
    obtain rfl := Option.some.inj h
    exact hq _ (jg_ne l0 rfl) (jg_ne l1 rfl) jg_self
theorem LX9_tick_40 {xs : List Int32} {d : Nat} {r : jR} {K : Mem → List jE} (hK : Ctx shR K) (hd : 7 ≤ d)  {x1 : Int32} (n : Nat) (s : Int32 × Mem) {t : (Int32 × Mem)} (h : lp (lX9_tick_40 x1) n s = some t) (hq : (qIM r K) t) : gX9_tick_40 xs d r K x1 s := lp_ind (G := gX9_tick_40 xs d r K x1) (Qe := (qIM r K)) (fun s t h hq => BX9_tick_40 hK hd s h hq) n s t h hq
theorem ufX9_tick {xs : List Int32} {d : Nat} {r : jR} {K : Mem → List jE} (hK : Ctx shR K) (hd : 7 ≤ d) {x1 : Int32} {m : Mem} {L : List (Nat × Value)} (l0 : jget L 0 = some (.ref 137)) (l1 : jget L 1 = some (.int x1)) {t : (Int32 × Mem)} (h : fX9_tick x1 m = some t) (hq : (qIM r K) t) : RunD (jcs xs) d 3 (some .int) jt_X9_tick (0, L, [], (K m)) r := by
  unfold fX9_tick at h
  refine R_iload_n (p := 1) rfl l1 rfl ?_
  refine R_iconst (p := 2) rfl ki_1 rfl ?_
  refine R_bipush (p := 4) rfl kb_60 rfl ?_
  refine R_cS3v (p := 7) rfl (tfX9_within (Nat.le_trans (by decide) hd) ) rfl rfl ?_
  by_cases hc : (fX9_within x1 (1 : Int32) (60 : Int32)) = 0
  · replace h := ite_t h hc
    refine R_ifne_f (p := 10) rfl (fun z => z hc) rfl ?_
    refine R_aload_n (p := 11) rfl l0 rfl ?_
    refine R_ldc (p := 13) rfl kl_m1000001 rfl ?_
    obtain ⟨q2, eq2, h⟩ := bind_some h
    refine R_cV2v (p := 16) hK rfl rfl (tfX9_finding hK (Nat.le_trans (by decide) hd)  eq2) rfl rfl ?_
    obtain rfl := Option.some.inj h
    exact R_ireturn rfl rfl hq
  · replace h := ite_f h hc
    refine R_ifne_t rfl hc ?_
    refine R_aload_n (p := 18) rfl l0 rfl ?_
    refine R_getR (p := 21) (q := 138) hK rfl rfl rfl rfl ?_
    refine R_iconst (p := 22) rfl ki_0 rfl ?_
    refine R_ialk (p := 23) hK rfl rfl (by decide) kn_0 rfl ?_
    refine R_iload_n (p := 24) rfl l1 rfl ?_
    refine R_iadd (p := 25) rfl rfl ?_
    refine R_sipush (p := 28) rfl ks_9999 rfl ?_
    by_cases hc : ((m 138 0) + x1) ≤ (9999 : Int32)
    · replace h := ite_t h hc
      refine R_icle_t rfl hc ?_
      refine R_iconst (p := 39) rfl ki_0 rfl ?_
      refine R_istore_n (p := 40) rfl rfl rfl ?_
      exact LX9_tick_40 hK hd _ _ h hq _ (jg_ne l0 rfl) (jg_ne l1 rfl) jg_self
    · replace h := ite_f h hc
      refine R_icle_f (p := 31) rfl hc rfl ?_
      refine R_aload_n (p := 32) rfl l0 rfl ?_
      refine R_ldc (p := 34) rfl kl_m1000003 rfl ?_
      obtain ⟨q5, eq5, h⟩ := bind_some h
      refine R_cV2v (p := 37) hK rfl rfl (tfX9_finding hK (Nat.le_trans (by decide) hd)  eq5) rfl rfl ?_
      obtain rfl := Option.some.inj h
      exact R_ireturn rfl rfl hq
theorem tfX9_tick {xs : List Int32} {d : Nat} {K : Mem → List jE} (hK : Ctx shR K) (hd : 8 ≤ d) {x1 : Int32} {m : Mem} {t : (Int32 × Mem)} (h : fX9_tick x1 m = some t) : CallD (jcs xs) d 221 [.ref 137, .int x1] (K m) (some (.int t.1), K t.2) := by
  obtain ⟨d, rfl⟩ : ∃ z, d = z + 1 := ⟨d - 1, by omega⟩
  refine CallD_of jmt_X9_tick rfl ⟨rfl, Nat.le_of_ble_eq_true rfl⟩ ?_
  exact ufX9_tick hK (Nat.le_of_succ_le_succ hd) rfl rfl h rfl
noncomputable def lX0_copyFrom_109 (k : Nat) (k2 : Nat) (s : Int32 × Mem) : Option ((Int32 × Mem) ⊕ Mem) := (if (16 : Int32) ≤ s.1 then some (.inr s.2) else (if inb s.1 16 then (if inb s.1 16 then some (.inl ((s.1 + (1 : Int32)), (mcpy s.2 (cw k2 (9 + s.1.toNatClampNeg)) (cw k (9 + s.1.toNatClampNeg)) 0 0 30))) else none) else none))
noncomputable def gX0_copyFrom_109 (xs : List Int32) (d : Nat) (r : jR) (K : Mem → List jE) (k : Nat) (k2 : Nat) (s : Int32 × Mem) : Prop := ∀ L, jget L 0 = some (.ref (cw k 2)) → jget L 1 = some (.ref (cw k2 2)) → jget L 2 = some (.int s.1) → RunD (jcs xs) d 3 (none) jt_X0_copyFrom (109, L, [], (K s.2)) r
noncomputable def fX0_copyFrom (k : Nat) (k2 : Nat) (m : Mem) : Option Mem := lp (lX0_copyFrom_109 k k2) fu ((0 : Int32), (mcpy (mcpy (mcpy (mcpy (mcpy (mput (mput (mput (mput m (cw k 2) 0 (m (cw k2 2) 0)) (cw k 2) 6 ((mput m (cw k 2) 0 (m (cw k2 2) 0)) (cw k2 2) 6)) (cw k 2) 7 ((mput (mput m (cw k 2) 0 (m (cw k2 2) 0)) (cw k 2) 6 ((mput m (cw k 2) 0 (m (cw k2 2) 0)) (cw k2 2) 6)) (cw k2 2) 7)) (cw k 2) 8 ((mput (mput (mput m (cw k 2) 0 (m (cw k2 2) 0)) (cw k 2) 6 ((mput m (cw k 2) 0 (m (cw k2 2) 0)) (cw k2 2) 6)) (cw k 2) 7 ((mput (mput m (cw k 2) 0 (m (cw k2 2) 0)) (cw k 2) 6 ((mput m (cw k 2) 0 (m (cw k2 2) 0)) (cw k2 2) 6)) (cw k2 2) 7)) (cw k2 2) 8)) (cw k2 3) (cw k 3) 0 0 16) (cw k2 4) (cw k 4) 0 0 16) (cw k2 5) (cw k 5) 0 0 16) (cw k2 6) (cw k 6) 0 0 16) (cw k2 7) (cw k 7) 0 0 16))
theorem BX0_copyFrom_109 {xs : List Int32} {d : Nat} {r : jR} {K : Mem → List jE} (hK : Ctx shC K) (hd : 0 ≤ d) {k : Nat} {k2 : Nat} (hk : k < 3) (hk2 : k2 < 3)  (s : Int32 × Mem) {t : (Int32 × Mem) ⊕ Mem} (h : lX0_copyFrom_109 k k2 s = some t) (hq : sQ (gX0_copyFrom_109 xs d r K k k2) (qM r K) t) : gX0_copyFrom_109 xs d r K k k2 s := by
  intro L l0 l1 l2
  unfold lX0_copyFrom_109 at h
  refine R_iload_n (p := 110) rfl l2 rfl ?_
  refine R_bipush (p := 112) rfl kb_16 rfl ?_
  by_cases hc : (16 : Int32) ≤ s.1
  · replace h := ite_t h hc
    refine R_icge_t rfl hc ?_
    obtain rfl := Option.some.inj h
    exact R_return rfl rfl hq
  · replace h := ite_f h hc
    refine R_icge_f (p := 115) rfl hc rfl ?_
    refine R_aload_n (p := 116) rfl l1 rfl ?_
    refine R_getR (p := 119) (q := (cw k2 8)) hK rfl (s_w2 hk2) rfl rfl ?_
    refine R_iload_n (p := 120) rfl l2 rfl ?_
    obtain ⟨b1, h⟩ := gd h
    refine R_aald (p := 121) (q := (cw k2 (9 + s.1.toNatClampNeg))) hK rfl (s_w8 hk2) (by decide) b1.1 (l_ring b1.2) rfl ?_
    refine R_iconst (p := 122) rfl ki_0 rfl ?_
    refine R_aload_n (p := 123) rfl l0 rfl ?_
    refine R_getR (p := 126) (q := (cw k 8)) hK rfl (s_w2 hk) rfl rfl ?_
    refine R_iload_n (p := 127) rfl l2 rfl ?_
    obtain ⟨b2, h⟩ := gd h
    refine R_aald (p := 128) (q := (cw k (9 + s.1.toNatClampNeg))) hK rfl (s_w8 hk) (by decide) b2.1 (l_ring b2.2) rfl ?_
    refine R_iconst (p := 129) rfl ki_0 rfl ?_
    refine R_bipush (p := 131) rfl kb_30 rfl ?_
    refine R_copk (p := 134) hK rfl (s_ring hk2 b1.2) (s_ring hk b2.2) (by decide) kn_0.1 kn_0.1 kn_30.1 rfl rfl ?_
    refine R_iinc (p := 137) rfl l2 rfl ki_1 rfl ?_
    refine R_goto rfl ?_
    obtain rfl := Option.some.inj h
    exact hq _ (jg_ne l0 rfl) (jg_ne l1 rfl) jg_self
theorem LX0_copyFrom_109 {xs : List Int32} {d : Nat} {r : jR} {K : Mem → List jE} (hK : Ctx shC K) (hd : 0 ≤ d) {k : Nat} {k2 : Nat} (hk : k < 3) (hk2 : k2 < 3)  (n : Nat) (s : Int32 × Mem) {t : Mem} (h : lp (lX0_copyFrom_109 k k2) n s = some t) (hq : (qM r K) t) : gX0_copyFrom_109 xs d r K k k2 s := lp_ind (G := gX0_copyFrom_109 xs d r K k k2) (Qe := (qM r K)) (fun s t h hq => BX0_copyFrom_109 hK hd hk hk2 s h hq) n s t h hq
theorem ufX0_copyFrom {xs : List Int32} {d : Nat} {r : jR} {K : Mem → List jE} (hK : Ctx shC K) (hd : 0 ≤ d) {k : Nat} {k2 : Nat} (hk : k < 3) (hk2 : k2 < 3) {m : Mem} {L : List (Nat × Value)} (l0 : jget L 0 = some (.ref (cw k 2))) (l1 : jget L 1 = some (.ref (cw k2 2))) {t : Mem} (h : fX0_copyFrom k k2 m = some t) (hq : (qM r K) t) : RunD (jcs xs) d 3 (none) jt_X0_copyFrom (0, L, [], (K m)) r := by
  unfold fX0_copyFrom at h
  refine R_aload_n (p := 1) rfl l0 rfl ?_
  refine R_aload_n (p := 2) rfl l1 rfl ?_
  refine R_getI (p := 5) hK rfl (s_w2 hk2) rfl rfl ?_
  refine R_putI (p := 8) hK rfl (s_w2 hk) rfl rfl rfl ?_
  refine R_aload_n (p := 9) rfl l0 rfl ?_
  refine R_aload_n (p := 10) rfl l1 rfl ?_
  refine R_getI (p := 13) hK rfl (s_w2 hk2) rfl rfl ?_
  refine R_putI (p := 16) hK rfl (s_w2 hk) rfl rfl rfl ?_
  refine R_aload_n (p := 17) rfl l0 rfl ?_
  refine R_aload_n (p := 18) rfl l1 rfl ?_
  refine R_getI (p := 21) hK rfl (s_w2 hk2) rfl rfl ?_
  refine R_putI (p := 24) hK rfl (s_w2 hk) rfl rfl rfl ?_
  refine R_aload_n (p := 25) rfl l0 rfl ?_
  refine R_aload_n (p := 26) rfl l1 rfl ?_
  refine R_getI (p := 29) hK rfl (s_w2 hk2) rfl rfl ?_
  refine R_putI (p := 32) hK rfl (s_w2 hk) rfl rfl rfl ?_
  refine R_aload_n (p := 33) rfl l1 rfl ?_
  refine R_getR (p := 36) (q := (cw k2 3)) hK rfl (s_w2 hk2) rfl rfl ?_
  refine R_iconst (p := 37) rfl ki_0 rfl ?_
  refine R_aload_n (p := 38) rfl l0 rfl ?_
  refine R_getR (p := 41) (q := (cw k 3)) hK rfl (s_w2 hk) rfl rfl ?_
  refine R_iconst (p := 42) rfl ki_0 rfl ?_
  refine R_bipush (p := 44) rfl kb_16 rfl ?_
  refine R_copk (p := 47) hK rfl (s_w3 hk2) (s_w3 hk) (by decide) kn_0.1 kn_0.1 kn_16.1 rfl rfl ?_
  refine R_aload_n (p := 48) rfl l1 rfl ?_
  refine R_getR (p := 51) (q := (cw k2 4)) hK rfl (s_w2 hk2) rfl rfl ?_
  refine R_iconst (p := 52) rfl ki_0 rfl ?_
  refine R_aload_n (p := 53) rfl l0 rfl ?_
  refine R_getR (p := 56) (q := (cw k 4)) hK rfl (s_w2 hk) rfl rfl ?_
  refine R_iconst (p := 57) rfl ki_0 rfl ?_
  refine R_bipush (p := 59) rfl kb_16 rfl ?_
  refine R_copk (p := 62) hK rfl (s_w4 hk2) (s_w4 hk) (by decide) kn_0.1 kn_0.1 kn_16.1 rfl rfl ?_
  refine R_aload_n (p := 63) rfl l1 rfl ?_
  refine R_getR (p := 66) (q := (cw k2 5)) hK rfl (s_w2 hk2) rfl rfl ?_
  refine R_iconst (p := 67) rfl ki_0 rfl ?_
  refine R_aload_n (p := 68) rfl l0 rfl ?_
  refine R_getR (p := 71) (q := (cw k 5)) hK rfl (s_w2 hk) rfl rfl ?_
  refine R_iconst (p := 72) rfl ki_0 rfl ?_
  refine R_bipush (p := 74) rfl kb_16 rfl ?_
  refine R_copk (p := 77) hK rfl (s_w5 hk2) (s_w5 hk) (by decide) kn_0.1 kn_0.1 kn_16.1 rfl rfl ?_
  refine R_aload_n (p := 78) rfl l1 rfl ?_
  refine R_getR (p := 81) (q := (cw k2 6)) hK rfl (s_w2 hk2) rfl rfl ?_
  refine R_iconst (p := 82) rfl ki_0 rfl ?_
  refine R_aload_n (p := 83) rfl l0 rfl ?_
  refine R_getR (p := 86) (q := (cw k 6)) hK rfl (s_w2 hk) rfl rfl ?_
  refine R_iconst (p := 87) rfl ki_0 rfl ?_
  refine R_bipush (p := 89) rfl kb_16 rfl ?_
  refine R_copk (p := 92) hK rfl (s_w6 hk2) (s_w6 hk) (by decide) kn_0.1 kn_0.1 kn_16.1 rfl rfl ?_
  refine R_aload_n (p := 93) rfl l1 rfl ?_
  refine R_getR (p := 96) (q := (cw k2 7)) hK rfl (s_w2 hk2) rfl rfl ?_
  refine R_iconst (p := 97) rfl ki_0 rfl ?_
  refine R_aload_n (p := 98) rfl l0 rfl ?_
  refine R_getR (p := 101) (q := (cw k 7)) hK rfl (s_w2 hk) rfl rfl ?_
  refine R_iconst (p := 102) rfl ki_0 rfl ?_
  refine R_bipush (p := 104) rfl kb_16 rfl ?_
  refine R_copk (p := 107) hK rfl (s_w7 hk2) (s_w7 hk) (by decide) kn_0.1 kn_0.1 kn_16.1 rfl rfl ?_
  refine R_iconst (p := 108) rfl ki_0 rfl ?_
  refine R_istore_n (p := 109) rfl rfl rfl ?_
  exact LX0_copyFrom_109 hK hd hk hk2 _ _ h hq _ (jg_ne l0 rfl) (jg_ne l1 rfl) jg_self
theorem tfX0_copyFrom {xs : List Int32} {d : Nat} {K : Mem → List jE} (hK : Ctx shC K) (hd : 1 ≤ d) {k : Nat} {k2 : Nat} (hk : k < 3) (hk2 : k2 < 3) {m : Mem} {t : Mem} (h : fX0_copyFrom k k2 m = some t) : CallD (jcs xs) d 1 [.ref (cw k 2), .ref (cw k2 2)] (K m) (none, K t) := by
  obtain ⟨d, rfl⟩ : ∃ z, d = z + 1 := ⟨d - 1, by omega⟩
  refine CallD_of jmt_X0_copyFrom rfl ⟨rfl, Nat.le_of_ble_eq_true rfl⟩ ?_
  exact ufX0_copyFrom hK (Nat.le_of_succ_le_succ hd) hk hk2 rfl rfl h rfl
noncomputable def fX5_copyFrom (k : Nat) (u : Nat) (k2 : Nat) (u2 : Nat) (m : Mem) : Option Mem := (fX5_take_60 k u (cw k2 (28 + 3 * u2)) (m (cw k2 (27 + 3 * u2)) 0) m).bind fun q1 => some q1
theorem ufX5_copyFrom {xs : List Int32} {d : Nat} {r : jR} {K : Mem → List jE} (hK : Ctx shC K) (hd : 1 ≤ d) {k : Nat} {u : Nat} {k2 : Nat} {u2 : Nat} (hk : k < 3) (hu : u < 3) (hk2 : k2 < 3) (hu2 : u2 < 3) {m : Mem} {L : List (Nat × Value)} (l0 : jget L 0 = some (.ref (cw k (27 + 3 * u)))) (l1 : jget L 1 = some (.ref (cw k2 (27 + 3 * u2)))) {t : Mem} (h : fX5_copyFrom k u k2 u2 m = some t) (hq : (qM r K) t) : RunD (jcs xs) d 2 (none) jt_X5_copyFrom (0, L, [], (K m)) r := by
  unfold fX5_copyFrom at h
  refine R_aload_n (p := 1) rfl l0 rfl ?_
  refine R_aload_n (p := 2) rfl l1 rfl ?_
  refine R_getR (p := 5) (q := (cw k2 (28 + 3 * u2))) hK rfl (s_text hk2 hu2) rfl rfl ?_
  refine R_aload_n (p := 6) rfl l1 rfl ?_
  refine R_getI (p := 9) hK rfl (s_text hk2 hu2) rfl rfl ?_
  obtain ⟨q1, eq1, h⟩ := bind_some h
  refine R_cV3n (p := 12) hK rfl (s_text hk hu) (tfX5_take_60 hK (Nat.le_trans (by decide) hd) hk hu (s_text28 hk2 hu2) eq1) rfl rfl ?_
  obtain rfl := Option.some.inj h
  exact R_return rfl rfl hq
theorem tfX5_copyFrom {xs : List Int32} {d : Nat} {K : Mem → List jE} (hK : Ctx shC K) (hd : 2 ≤ d) {k : Nat} {u : Nat} {k2 : Nat} {u2 : Nat} (hk : k < 3) (hu : u < 3) (hk2 : k2 < 3) (hu2 : u2 < 3) {m : Mem} {t : Mem} (h : fX5_copyFrom k u k2 u2 m = some t) : CallD (jcs xs) d 69 [.ref (cw k (27 + 3 * u)), .ref (cw k2 (27 + 3 * u2))] (K m) (none, K t) := by
  obtain ⟨d, rfl⟩ : ∃ z, d = z + 1 := ⟨d - 1, by omega⟩
  refine CallD_of jmt_X5_copyFrom rfl ⟨rfl, Nat.le_of_ble_eq_true rfl⟩ ?_
  exact ufX5_copyFrom hK (Nat.le_of_succ_le_succ hd) hk hu hk2 hu2 rfl rfl h rfl
noncomputable def lX7_copyFrom_13 (k : Nat) (k2 : Nat) (s : Int32 × Mem) : Option ((Int32 × Mem) ⊕ Mem) := (if (3 : Int32) ≤ s.1 then some (.inr (mput (mput (mput (mput (mput (mput (mput (mcpy (mput (mcpy s.2 (cw k2 36) (cw k 36) 0 0 60) (cw k 1) 3 ((mcpy s.2 (cw k2 36) (cw k 36) 0 0 60) (cw k2 1) 3)) (cw k2 37) (cw k 37) 0 0 24) (cw k 1) 5 ((mcpy (mput (mcpy s.2 (cw k2 36) (cw k 36) 0 0 60) (cw k 1) 3 ((mcpy s.2 (cw k2 36) (cw k 36) 0 0 60) (cw k2 1) 3)) (cw k2 37) (cw k 37) 0 0 24) (cw k2 1) 5)) (cw k 1) 6 ((mput (mcpy (mput (mcpy s.2 (cw k2 36) (cw k 36) 0 0 60) (cw k 1) 3 ((mcpy s.2 (cw k2 36) (cw k 36) 0 0 60) (cw k2 1) 3)) (cw k2 37) (cw k 37) 0 0 24) (cw k 1) 5 ((mcpy (mput (mcpy s.2 (cw k2 36) (cw k 36) 0 0 60) (cw k 1) 3 ((mcpy s.2 (cw k2 36) (cw k 36) 0 0 60) (cw k2 1) 3)) (cw k2 37) (cw k 37) 0 0 24) (cw k2 1) 5)) (cw k2 1) 6)) (cw k 1) 7 ((mput (mput (mcpy (mput (mcpy s.2 (cw k2 36) (cw k 36) 0 0 60) (cw k 1) 3 ((mcpy s.2 (cw k2 36) (cw k 36) 0 0 60) (cw k2 1) 3)) (cw k2 37) (cw k 37) 0 0 24) (cw k 1) 5 ((mcpy (mput (mcpy s.2 (cw k2 36) (cw k 36) 0 0 60) (cw k 1) 3 ((mcpy s.2 (cw k2 36) (cw k 36) 0 0 60) (cw k2 1) 3)) (cw k2 37) (cw k 37) 0 0 24) (cw k2 1) 5)) (cw k 1) 6 ((mput (mcpy (mput (mcpy s.2 (cw k2 36) (cw k 36) 0 0 60) (cw k 1) 3 ((mcpy s.2 (cw k2 36) (cw k 36) 0 0 60) (cw k2 1) 3)) (cw k2 37) (cw k 37) 0 0 24) (cw k 1) 5 ((mcpy (mput (mcpy s.2 (cw k2 36) (cw k 36) 0 0 60) (cw k 1) 3 ((mcpy s.2 (cw k2 36) (cw k 36) 0 0 60) (cw k2 1) 3)) (cw k2 37) (cw k 37) 0 0 24) (cw k2 1) 5)) (cw k2 1) 6)) (cw k2 1) 7)) (cw k 1) 8 ((mput (mput (mput (mcpy (mput (mcpy s.2 (cw k2 36) (cw k 36) 0 0 60) (cw k 1) 3 ((mcpy s.2 (cw k2 36) (cw k 36) 0 0 60) (cw k2 1) 3)) (cw k2 37) (cw k 37) 0 0 24) (cw k 1) 5 ((mcpy (mput (mcpy s.2 (cw k2 36) (cw k 36) 0 0 60) (cw k 1) 3 ((mcpy s.2 (cw k2 36) (cw k 36) 0 0 60) (cw k2 1) 3)) (cw k2 37) (cw k 37) 0 0 24) (cw k2 1) 5)) (cw k 1) 6 ((mput (mcpy (mput (mcpy s.2 (cw k2 36) (cw k 36) 0 0 60) (cw k 1) 3 ((mcpy s.2 (cw k2 36) (cw k 36) 0 0 60) (cw k2 1) 3)) (cw k2 37) (cw k 37) 0 0 24) (cw k 1) 5 ((mcpy (mput (mcpy s.2 (cw k2 36) (cw k 36) 0 0 60) (cw k 1) 3 ((mcpy s.2 (cw k2 36) (cw k 36) 0 0 60) (cw k2 1) 3)) (cw k2 37) (cw k 37) 0 0 24) (cw k2 1) 5)) (cw k2 1) 6)) (cw k 1) 7 ((mput (mput (mcpy (mput (mcpy s.2 (cw k2 36) (cw k 36) 0 0 60) (cw k 1) 3 ((mcpy s.2 (cw k2 36) (cw k 36) 0 0 60) (cw k2 1) 3)) (cw k2 37) (cw k 37) 0 0 24) (cw k 1) 5 ((mcpy (mput (mcpy s.2 (cw k2 36) (cw k 36) 0 0 60) (cw k 1) 3 ((mcpy s.2 (cw k2 36) (cw k 36) 0 0 60) (cw k2 1) 3)) (cw k2 37) (cw k 37) 0 0 24) (cw k2 1) 5)) (cw k 1) 6 ((mput (mcpy (mput (mcpy s.2 (cw k2 36) (cw k 36) 0 0 60) (cw k 1) 3 ((mcpy s.2 (cw k2 36) (cw k 36) 0 0 60) (cw k2 1) 3)) (cw k2 37) (cw k 37) 0 0 24) (cw k 1) 5 ((mcpy (mput (mcpy s.2 (cw k2 36) (cw k 36) 0 0 60) (cw k 1) 3 ((mcpy s.2 (cw k2 36) (cw k 36) 0 0 60) (cw k2 1) 3)) (cw k2 37) (cw k 37) 0 0 24) (cw k2 1) 5)) (cw k2 1) 6)) (cw k2 1) 7)) (cw k2 1) 8)) (cw k 1) 9 ((mput (mput (mput (mput (mcpy (mput (mcpy s.2 (cw k2 36) (cw k 36) 0 0 60) (cw k 1) 3 ((mcpy s.2 (cw k2 36) (cw k 36) 0 0 60) (cw k2 1) 3)) (cw k2 37) (cw k 37) 0 0 24) (cw k 1) 5 ((mcpy (mput (mcpy s.2 (cw k2 36) (cw k 36) 0 0 60) (cw k 1) 3 ((mcpy s.2 (cw k2 36) (cw k 36) 0 0 60) (cw k2 1) 3)) (cw k2 37) (cw k 37) 0 0 24) (cw k2 1) 5)) (cw k 1) 6 ((mput (mcpy (mput (mcpy s.2 (cw k2 36) (cw k 36) 0 0 60) (cw k 1) 3 ((mcpy s.2 (cw k2 36) (cw k 36) 0 0 60) (cw k2 1) 3)) (cw k2 37) (cw k 37) 0 0 24) (cw k 1) 5 ((mcpy (mput (mcpy s.2 (cw k2 36) (cw k 36) 0 0 60) (cw k 1) 3 ((mcpy s.2 (cw k2 36) (cw k 36) 0 0 60) (cw k2 1) 3)) (cw k2 37) (cw k 37) 0 0 24) (cw k2 1) 5)) (cw k2 1) 6)) (cw k 1) 7 ((mput (mput (mcpy (mput (mcpy s.2 (cw k2 36) (cw k 36) 0 0 60) (cw k 1) 3 ((mcpy s.2 (cw k2 36) (cw k 36) 0 0 60) (cw k2 1) 3)) (cw k2 37) (cw k 37) 0 0 24) (cw k 1) 5 ((mcpy (mput (mcpy s.2 (cw k2 36) (cw k 36) 0 0 60) (cw k 1) 3 ((mcpy s.2 (cw k2 36) (cw k 36) 0 0 60) (cw k2 1) 3)) (cw k2 37) (cw k 37) 0 0 24) (cw k2 1) 5)) (cw k 1) 6 ((mput (mcpy (mput (mcpy s.2 (cw k2 36) (cw k 36) 0 0 60) (cw k 1) 3 ((mcpy s.2 (cw k2 36) (cw k 36) 0 0 60) (cw k2 1) 3)) (cw k2 37) (cw k 37) 0 0 24) (cw k 1) 5 ((mcpy (mput (mcpy s.2 (cw k2 36) (cw k 36) 0 0 60) (cw k 1) 3 ((mcpy s.2 (cw k2 36) (cw k 36) 0 0 60) (cw k2 1) 3)) (cw k2 37) (cw k 37) 0 0 24) (cw k2 1) 5)) (cw k2 1) 6)) (cw k2 1) 7)) (cw k 1) 8 ((mput (mput (mput (mcpy (mput (mcpy s.2 (cw k2 36) (cw k 36) 0 0 60) (cw k 1) 3 ((mcpy s.2 (cw k2 36) (cw k 36) 0 0 60) (cw k2 1) 3)) (cw k2 37) (cw k 37) 0 0 24) (cw k 1) 5 ((mcpy (mput (mcpy s.2 (cw k2 36) (cw k 36) 0 0 60) (cw k 1) 3 ((mcpy s.2 (cw k2 36) (cw k 36) 0 0 60) (cw k2 1) 3)) (cw k2 37) (cw k 37) 0 0 24) (cw k2 1) 5)) (cw k 1) 6 ((mput (mcpy (mput (mcpy s.2 (cw k2 36) (cw k 36) 0 0 60) (cw k 1) 3 ((mcpy s.2 (cw k2 36) (cw k 36) 0 0 60) (cw k2 1) 3)) (cw k2 37) (cw k 37) 0 0 24) (cw k 1) 5 ((mcpy (mput (mcpy s.2 (cw k2 36) (cw k 36) 0 0 60) (cw k 1) 3 ((mcpy s.2 (cw k2 36) (cw k 36) 0 0 60) (cw k2 1) 3)) (cw k2 37) (cw k 37) 0 0 24) (cw k2 1) 5)) (cw k2 1) 6)) (cw k 1) 7 ((mput (mput (mcpy (mput (mcpy s.2 (cw k2 36) (cw k 36) 0 0 60) (cw k 1) 3 ((mcpy s.2 (cw k2 36) (cw k 36) 0 0 60) (cw k2 1) 3)) (cw k2 37) (cw k 37) 0 0 24) (cw k 1) 5 ((mcpy (mput (mcpy s.2 (cw k2 36) (cw k 36) 0 0 60) (cw k 1) 3 ((mcpy s.2 (cw k2 36) (cw k 36) 0 0 60) (cw k2 1) 3)) (cw k2 37) (cw k 37) 0 0 24) (cw k2 1) 5)) (cw k 1) 6 ((mput (mcpy (mput (mcpy s.2 (cw k2 36) (cw k 36) 0 0 60) (cw k 1) 3 ((mcpy s.2 (cw k2 36) (cw k 36) 0 0 60) (cw k2 1) 3)) (cw k2 37) (cw k 37) 0 0 24) (cw k 1) 5 ((mcpy (mput (mcpy s.2 (cw k2 36) (cw k 36) 0 0 60) (cw k 1) 3 ((mcpy s.2 (cw k2 36) (cw k 36) 0 0 60) (cw k2 1) 3)) (cw k2 37) (cw k 37) 0 0 24) (cw k2 1) 5)) (cw k2 1) 6)) (cw k2 1) 7)) (cw k2 1) 8)) (cw k2 1) 9)) (cw k 1) 10 ((mput (mput (mput (mput (mput (mcpy (mput (mcpy s.2 (cw k2 36) (cw k 36) 0 0 60) (cw k 1) 3 ((mcpy s.2 (cw k2 36) (cw k 36) 0 0 60) (cw k2 1) 3)) (cw k2 37) (cw k 37) 0 0 24) (cw k 1) 5 ((mcpy (mput (mcpy s.2 (cw k2 36) (cw k 36) 0 0 60) (cw k 1) 3 ((mcpy s.2 (cw k2 36) (cw k 36) 0 0 60) (cw k2 1) 3)) (cw k2 37) (cw k 37) 0 0 24) (cw k2 1) 5)) (cw k 1) 6 ((mput (mcpy (mput (mcpy s.2 (cw k2 36) (cw k 36) 0 0 60) (cw k 1) 3 ((mcpy s.2 (cw k2 36) (cw k 36) 0 0 60) (cw k2 1) 3)) (cw k2 37) (cw k 37) 0 0 24) (cw k 1) 5 ((mcpy (mput (mcpy s.2 (cw k2 36) (cw k 36) 0 0 60) (cw k 1) 3 ((mcpy s.2 (cw k2 36) (cw k 36) 0 0 60) (cw k2 1) 3)) (cw k2 37) (cw k 37) 0 0 24) (cw k2 1) 5)) (cw k2 1) 6)) (cw k 1) 7 ((mput (mput (mcpy (mput (mcpy s.2 (cw k2 36) (cw k 36) 0 0 60) (cw k 1) 3 ((mcpy s.2 (cw k2 36) (cw k 36) 0 0 60) (cw k2 1) 3)) (cw k2 37) (cw k 37) 0 0 24) (cw k 1) 5 ((mcpy (mput (mcpy s.2 (cw k2 36) (cw k 36) 0 0 60) (cw k 1) 3 ((mcpy s.2 (cw k2 36) (cw k 36) 0 0 60) (cw k2 1) 3)) (cw k2 37) (cw k 37) 0 0 24) (cw k2 1) 5)) (cw k 1) 6 ((mput (mcpy (mput (mcpy s.2 (cw k2 36) (cw k 36) 0 0 60) (cw k 1) 3 ((mcpy s.2 (cw k2 36) (cw k 36) 0 0 60) (cw k2 1) 3)) (cw k2 37) (cw k 37) 0 0 24) (cw k 1) 5 ((mcpy (mput (mcpy s.2 (cw k2 36) (cw k 36) 0 0 60) (cw k 1) 3 ((mcpy s.2 (cw k2 36) (cw k 36) 0 0 60) (cw k2 1) 3)) (cw k2 37) (cw k 37) 0 0 24) (cw k2 1) 5)) (cw k2 1) 6)) (cw k2 1) 7)) (cw k 1) 8 ((mput (mput (mput (mcpy (mput (mcpy s.2 (cw k2 36) (cw k 36) 0 0 60) (cw k 1) 3 ((mcpy s.2 (cw k2 36) (cw k 36) 0 0 60) (cw k2 1) 3)) (cw k2 37) (cw k 37) 0 0 24) (cw k 1) 5 ((mcpy (mput (mcpy s.2 (cw k2 36) (cw k 36) 0 0 60) (cw k 1) 3 ((mcpy s.2 (cw k2 36) (cw k 36) 0 0 60) (cw k2 1) 3)) (cw k2 37) (cw k 37) 0 0 24) (cw k2 1) 5)) (cw k 1) 6 ((mput (mcpy (mput (mcpy s.2 (cw k2 36) (cw k 36) 0 0 60) (cw k 1) 3 ((mcpy s.2 (cw k2 36) (cw k 36) 0 0 60) (cw k2 1) 3)) (cw k2 37) (cw k 37) 0 0 24) (cw k 1) 5 ((mcpy (mput (mcpy s.2 (cw k2 36) (cw k 36) 0 0 60) (cw k 1) 3 ((mcpy s.2 (cw k2 36) (cw k 36) 0 0 60) (cw k2 1) 3)) (cw k2 37) (cw k 37) 0 0 24) (cw k2 1) 5)) (cw k2 1) 6)) (cw k 1) 7 ((mput (mput (mcpy (mput (mcpy s.2 (cw k2 36) (cw k 36) 0 0 60) (cw k 1) 3 ((mcpy s.2 (cw k2 36) (cw k 36) 0 0 60) (cw k2 1) 3)) (cw k2 37) (cw k 37) 0 0 24) (cw k 1) 5 ((mcpy (mput (mcpy s.2 (cw k2 36) (cw k 36) 0 0 60) (cw k 1) 3 ((mcpy s.2 (cw k2 36) (cw k 36) 0 0 60) (cw k2 1) 3)) (cw k2 37) (cw k 37) 0 0 24) (cw k2 1) 5)) (cw k 1) 6 ((mput (mcpy (mput (mcpy s.2 (cw k2 36) (cw k 36) 0 0 60) (cw k 1) 3 ((mcpy s.2 (cw k2 36) (cw k 36) 0 0 60) (cw k2 1) 3)) (cw k2 37) (cw k 37) 0 0 24) (cw k 1) 5 ((mcpy (mput (mcpy s.2 (cw k2 36) (cw k 36) 0 0 60) (cw k 1) 3 ((mcpy s.2 (cw k2 36) (cw k 36) 0 0 60) (cw k2 1) 3)) (cw k2 37) (cw k 37) 0 0 24) (cw k2 1) 5)) (cw k2 1) 6)) (cw k2 1) 7)) (cw k2 1) 8)) (cw k 1) 9 ((mput (mput (mput (mput (mcpy (mput (mcpy s.2 (cw k2 36) (cw k 36) 0 0 60) (cw k 1) 3 ((mcpy s.2 (cw k2 36) (cw k 36) 0 0 60) (cw k2 1) 3)) (cw k2 37) (cw k 37) 0 0 24) (cw k 1) 5 ((mcpy (mput (mcpy s.2 (cw k2 36) (cw k 36) 0 0 60) (cw k 1) 3 ((mcpy s.2 (cw k2 36) (cw k 36) 0 0 60) (cw k2 1) 3)) (cw k2 37) (cw k 37) 0 0 24) (cw k2 1) 5)) (cw k 1) 6 ((mput (mcpy (mput (mcpy s.2 (cw k2 36) (cw k 36) 0 0 60) (cw k 1) 3 ((mcpy s.2 (cw k2 36) (cw k 36) 0 0 60) (cw k2 1) 3)) (cw k2 37) (cw k 37) 0 0 24) (cw k 1) 5 ((mcpy (mput (mcpy s.2 (cw k2 36) (cw k 36) 0 0 60) (cw k 1) 3 ((mcpy s.2 (cw k2 36) (cw k 36) 0 0 60) (cw k2 1) 3)) (cw k2 37) (cw k 37) 0 0 24) (cw k2 1) 5)) (cw k2 1) 6)) (cw k 1) 7 ((mput (mput (mcpy (mput (mcpy s.2 (cw k2 36) (cw k 36) 0 0 60) (cw k 1) 3 ((mcpy s.2 (cw k2 36) (cw k 36) 0 0 60) (cw k2 1) 3)) (cw k2 37) (cw k 37) 0 0 24) (cw k 1) 5 ((mcpy (mput (mcpy s.2 (cw k2 36) (cw k 36) 0 0 60) (cw k 1) 3 ((mcpy s.2 (cw k2 36) (cw k 36) 0 0 60) (cw k2 1) 3)) (cw k2 37) (cw k 37) 0 0 24) (cw k2 1) 5)) (cw k 1) 6 ((mput (mcpy (mput (mcpy s.2 (cw k2 36) (cw k 36) 0 0 60) (cw k 1) 3 ((mcpy s.2 (cw k2 36) (cw k 36) 0 0 60) (cw k2 1) 3)) (cw k2 37) (cw k 37) 0 0 24) (cw k 1) 5 ((mcpy (mput (mcpy s.2 (cw k2 36) (cw k 36) 0 0 60) (cw k 1) 3 ((mcpy s.2 (cw k2 36) (cw k 36) 0 0 60) (cw k2 1) 3)) (cw k2 37) (cw k 37) 0 0 24) (cw k2 1) 5)) (cw k2 1) 6)) (cw k2 1) 7)) (cw k 1) 8 ((mput (mput (mput (mcpy (mput (mcpy s.2 (cw k2 36) (cw k 36) 0 0 60) (cw k 1) 3 ((mcpy s.2 (cw k2 36) (cw k 36) 0 0 60) (cw k2 1) 3)) (cw k2 37) (cw k 37) 0 0 24) (cw k 1) 5 ((mcpy (mput (mcpy s.2 (cw k2 36) (cw k 36) 0 0 60) (cw k 1) 3 ((mcpy s.2 (cw k2 36) (cw k 36) 0 0 60) (cw k2 1) 3)) (cw k2 37) (cw k 37) 0 0 24) (cw k2 1) 5)) (cw k 1) 6 ((mput (mcpy (mput (mcpy s.2 (cw k2 36) (cw k 36) 0 0 60) (cw k 1) 3 ((mcpy s.2 (cw k2 36) (cw k 36) 0 0 60) (cw k2 1) 3)) (cw k2 37) (cw k 37) 0 0 24) (cw k 1) 5 ((mcpy (mput (mcpy s.2 (cw k2 36) (cw k 36) 0 0 60) (cw k 1) 3 ((mcpy s.2 (cw k2 36) (cw k 36) 0 0 60) (cw k2 1) 3)) (cw k2 37) (cw k 37) 0 0 24) (cw k2 1) 5)) (cw k2 1) 6)) (cw k 1) 7 ((mput (mput (mcpy (mput (mcpy s.2 (cw k2 36) (cw k 36) 0 0 60) (cw k 1) 3 ((mcpy s.2 (cw k2 36) (cw k 36) 0 0 60) (cw k2 1) 3)) (cw k2 37) (cw k 37) 0 0 24) (cw k 1) 5 ((mcpy (mput (mcpy s.2 (cw k2 36) (cw k 36) 0 0 60) (cw k 1) 3 ((mcpy s.2 (cw k2 36) (cw k 36) 0 0 60) (cw k2 1) 3)) (cw k2 37) (cw k 37) 0 0 24) (cw k2 1) 5)) (cw k 1) 6 ((mput (mcpy (mput (mcpy s.2 (cw k2 36) (cw k 36) 0 0 60) (cw k 1) 3 ((mcpy s.2 (cw k2 36) (cw k 36) 0 0 60) (cw k2 1) 3)) (cw k2 37) (cw k 37) 0 0 24) (cw k 1) 5 ((mcpy (mput (mcpy s.2 (cw k2 36) (cw k 36) 0 0 60) (cw k 1) 3 ((mcpy s.2 (cw k2 36) (cw k 36) 0 0 60) (cw k2 1) 3)) (cw k2 37) (cw k 37) 0 0 24) (cw k2 1) 5)) (cw k2 1) 6)) (cw k2 1) 7)) (cw k2 1) 8)) (cw k2 1) 9)) (cw k2 1) 10)) (cw k 1) 11 ((mput (mput (mput (mput (mput (mput (mcpy (mput (mcpy s.2 (cw k2 36) (cw k 36) 0 0 60) (cw k 1) 3 ((mcpy s.2 (cw k2 36) (cw k 36) 0 0 60) (cw k2 1) 3)) (cw k2 37) (cw k 37) 0 0 24) (cw k 1) 5 ((mcpy (mput (mcpy s.2 (cw k2 36) (cw k 36) 0 0 60) (cw k 1) 3 ((mcpy s.2 (cw k2 36) (cw k 36) 0 0 60) (cw k2 1) 3)) (cw k2 37) (cw k 37) 0 0 24) (cw k2 1) 5)) (cw k 1) 6 ((mput (mcpy (mput (mcpy s.2 (cw k2 36) (cw k 36) 0 0 60) (cw k 1) 3 ((mcpy s.2 (cw k2 36) (cw k 36) 0 0 60) (cw k2 1) 3)) (cw k2 37) (cw k 37) 0 0 24) (cw k 1) 5 ((mcpy (mput (mcpy s.2 (cw k2 36) (cw k 36) 0 0 60) (cw k 1) 3 ((mcpy s.2 (cw k2 36) (cw k 36) 0 0 60) (cw k2 1) 3)) (cw k2 37) (cw k 37) 0 0 24) (cw k2 1) 5)) (cw k2 1) 6)) (cw k 1) 7 ((mput (mput (mcpy (mput (mcpy s.2 (cw k2 36) (cw k 36) 0 0 60) (cw k 1) 3 ((mcpy s.2 (cw k2 36) (cw k 36) 0 0 60) (cw k2 1) 3)) (cw k2 37) (cw k 37) 0 0 24) (cw k 1) 5 ((mcpy (mput (mcpy s.2 (cw k2 36) (cw k 36) 0 0 60) (cw k 1) 3 ((mcpy s.2 (cw k2 36) (cw k 36) 0 0 60) (cw k2 1) 3)) (cw k2 37) (cw k 37) 0 0 24) (cw k2 1) 5)) (cw k 1) 6 ((mput (mcpy (mput (mcpy s.2 (cw k2 36) (cw k 36) 0 0 60) (cw k 1) 3 ((mcpy s.2 (cw k2 36) (cw k 36) 0 0 60) (cw k2 1) 3)) (cw k2 37) (cw k 37) 0 0 24) (cw k 1) 5 ((mcpy (mput (mcpy s.2 (cw k2 36) (cw k 36) 0 0 60) (cw k 1) 3 ((mcpy s.2 (cw k2 36) (cw k 36) 0 0 60) (cw k2 1) 3)) (cw k2 37) (cw k 37) 0 0 24) (cw k2 1) 5)) (cw k2 1) 6)) (cw k2 1) 7)) (cw k 1) 8 ((mput (mput (mput (mcpy (mput (mcpy s.2 (cw k2 36) (cw k 36) 0 0 60) (cw k 1) 3 ((mcpy s.2 (cw k2 36) (cw k 36) 0 0 60) (cw k2 1) 3)) (cw k2 37) (cw k 37) 0 0 24) (cw k 1) 5 ((mcpy (mput (mcpy s.2 (cw k2 36) (cw k 36) 0 0 60) (cw k 1) 3 ((mcpy s.2 (cw k2 36) (cw k 36) 0 0 60) (cw k2 1) 3)) (cw k2 37) (cw k 37) 0 0 24) (cw k2 1) 5)) (cw k 1) 6 ((mput (mcpy (mput (mcpy s.2 (cw k2 36) (cw k 36) 0 0 60) (cw k 1) 3 ((mcpy s.2 (cw k2 36) (cw k 36) 0 0 60) (cw k2 1) 3)) (cw k2 37) (cw k 37) 0 0 24) (cw k 1) 5 ((mcpy (mput (mcpy s.2 (cw k2 36) (cw k 36) 0 0 60) (cw k 1) 3 ((mcpy s.2 (cw k2 36) (cw k 36) 0 0 60) (cw k2 1) 3)) (cw k2 37) (cw k 37) 0 0 24) (cw k2 1) 5)) (cw k2 1) 6)) (cw k 1) 7 ((mput (mput (mcpy (mput (mcpy s.2 (cw k2 36) (cw k 36) 0 0 60) (cw k 1) 3 ((mcpy s.2 (cw k2 36) (cw k 36) 0 0 60) (cw k2 1) 3)) (cw k2 37) (cw k 37) 0 0 24) (cw k 1) 5 ((mcpy (mput (mcpy s.2 (cw k2 36) (cw k 36) 0 0 60) (cw k 1) 3 ((mcpy s.2 (cw k2 36) (cw k 36) 0 0 60) (cw k2 1) 3)) (cw k2 37) (cw k 37) 0 0 24) (cw k2 1) 5)) (cw k 1) 6 ((mput (mcpy (mput (mcpy s.2 (cw k2 36) (cw k 36) 0 0 60) (cw k 1) 3 ((mcpy s.2 (cw k2 36) (cw k 36) 0 0 60) (cw k2 1) 3)) (cw k2 37) (cw k 37) 0 0 24) (cw k 1) 5 ((mcpy (mput (mcpy s.2 (cw k2 36) (cw k 36) 0 0 60) (cw k 1) 3 ((mcpy s.2 (cw k2 36) (cw k 36) 0 0 60) (cw k2 1) 3)) (cw k2 37) (cw k 37) 0 0 24) (cw k2 1) 5)) (cw k2 1) 6)) (cw k2 1) 7)) (cw k2 1) 8)) (cw k 1) 9 ((mput (mput (mput (mput (mcpy (mput (mcpy s.2 (cw k2 36) (cw k 36) 0 0 60) (cw k 1) 3 ((mcpy s.2 (cw k2 36) (cw k 36) 0 0 60) (cw k2 1) 3)) (cw k2 37) (cw k 37) 0 0 24) (cw k 1) 5 ((mcpy (mput (mcpy s.2 (cw k2 36) (cw k 36) 0 0 60) (cw k 1) 3 ((mcpy s.2 (cw k2 36) (cw k 36) 0 0 60) (cw k2 1) 3)) (cw k2 37) (cw k 37) 0 0 24) (cw k2 1) 5)) (cw k 1) 6 ((mput (mcpy (mput (mcpy s.2 (cw k2 36) (cw k 36) 0 0 60) (cw k 1) 3 ((mcpy s.2 (cw k2 36) (cw k 36) 0 0 60) (cw k2 1) 3)) (cw k2 37) (cw k 37) 0 0 24) (cw k 1) 5 ((mcpy (mput (mcpy s.2 (cw k2 36) (cw k 36) 0 0 60) (cw k 1) 3 ((mcpy s.2 (cw k2 36) (cw k 36) 0 0 60) (cw k2 1) 3)) (cw k2 37) (cw k 37) 0 0 24) (cw k2 1) 5)) (cw k2 1) 6)) (cw k 1) 7 ((mput (mput (mcpy (mput (mcpy s.2 (cw k2 36) (cw k 36) 0 0 60) (cw k 1) 3 ((mcpy s.2 (cw k2 36) (cw k 36) 0 0 60) (cw k2 1) 3)) (cw k2 37) (cw k 37) 0 0 24) (cw k 1) 5 ((mcpy (mput (mcpy s.2 (cw k2 36) (cw k 36) 0 0 60) (cw k 1) 3 ((mcpy s.2 (cw k2 36) (cw k 36) 0 0 60) (cw k2 1) 3)) (cw k2 37) (cw k 37) 0 0 24) (cw k2 1) 5)) (cw k 1) 6 ((mput (mcpy (mput (mcpy s.2 (cw k2 36) (cw k 36) 0 0 60) (cw k 1) 3 ((mcpy s.2 (cw k2 36) (cw k 36) 0 0 60) (cw k2 1) 3)) (cw k2 37) (cw k 37) 0 0 24) (cw k 1) 5 ((mcpy (mput (mcpy s.2 (cw k2 36) (cw k 36) 0 0 60) (cw k 1) 3 ((mcpy s.2 (cw k2 36) (cw k 36) 0 0 60) (cw k2 1) 3)) (cw k2 37) (cw k 37) 0 0 24) (cw k2 1) 5)) (cw k2 1) 6)) (cw k2 1) 7)) (cw k 1) 8 ((mput (mput (mput (mcpy (mput (mcpy s.2 (cw k2 36) (cw k 36) 0 0 60) (cw k 1) 3 ((mcpy s.2 (cw k2 36) (cw k 36) 0 0 60) (cw k2 1) 3)) (cw k2 37) (cw k 37) 0 0 24) (cw k 1) 5 ((mcpy (mput (mcpy s.2 (cw k2 36) (cw k 36) 0 0 60) (cw k 1) 3 ((mcpy s.2 (cw k2 36) (cw k 36) 0 0 60) (cw k2 1) 3)) (cw k2 37) (cw k 37) 0 0 24) (cw k2 1) 5)) (cw k 1) 6 ((mput (mcpy (mput (mcpy s.2 (cw k2 36) (cw k 36) 0 0 60) (cw k 1) 3 ((mcpy s.2 (cw k2 36) (cw k 36) 0 0 60) (cw k2 1) 3)) (cw k2 37) (cw k 37) 0 0 24) (cw k 1) 5 ((mcpy (mput (mcpy s.2 (cw k2 36) (cw k 36) 0 0 60) (cw k 1) 3 ((mcpy s.2 (cw k2 36) (cw k 36) 0 0 60) (cw k2 1) 3)) (cw k2 37) (cw k 37) 0 0 24) (cw k2 1) 5)) (cw k2 1) 6)) (cw k 1) 7 ((mput (mput (mcpy (mput (mcpy s.2 (cw k2 36) (cw k 36) 0 0 60) (cw k 1) 3 ((mcpy s.2 (cw k2 36) (cw k 36) 0 0 60) (cw k2 1) 3)) (cw k2 37) (cw k 37) 0 0 24) (cw k 1) 5 ((mcpy (mput (mcpy s.2 (cw k2 36) (cw k 36) 0 0 60) (cw k 1) 3 ((mcpy s.2 (cw k2 36) (cw k 36) 0 0 60) (cw k2 1) 3)) (cw k2 37) (cw k 37) 0 0 24) (cw k2 1) 5)) (cw k 1) 6 ((mput (mcpy (mput (mcpy s.2 (cw k2 36) (cw k 36) 0 0 60) (cw k 1) 3 ((mcpy s.2 (cw k2 36) (cw k 36) 0 0 60) (cw k2 1) 3)) (cw k2 37) (cw k 37) 0 0 24) (cw k 1) 5 ((mcpy (mput (mcpy s.2 (cw k2 36) (cw k 36) 0 0 60) (cw k 1) 3 ((mcpy s.2 (cw k2 36) (cw k 36) 0 0 60) (cw k2 1) 3)) (cw k2 37) (cw k 37) 0 0 24) (cw k2 1) 5)) (cw k2 1) 6)) (cw k2 1) 7)) (cw k2 1) 8)) (cw k2 1) 9)) (cw k 1) 10 ((mput (mput (mput (mput (mput (mcpy (mput (mcpy s.2 (cw k2 36) (cw k 36) 0 0 60) (cw k 1) 3 ((mcpy s.2 (cw k2 36) (cw k 36) 0 0 60) (cw k2 1) 3)) (cw k2 37) (cw k 37) 0 0 24) (cw k 1) 5 ((mcpy (mput (mcpy s.2 (cw k2 36) (cw k 36) 0 0 60) (cw k 1) 3 ((mcpy s.2 (cw k2 36) (cw k 36) 0 0 60) (cw k2 1) 3)) (cw k2 37) (cw k 37) 0 0 24) (cw k2 1) 5)) (cw k 1) 6 ((mput (mcpy (mput (mcpy s.2 (cw k2 36) (cw k 36) 0 0 60) (cw k 1) 3 ((mcpy s.2 (cw k2 36) (cw k 36) 0 0 60) (cw k2 1) 3)) (cw k2 37) (cw k 37) 0 0 24) (cw k 1) 5 ((mcpy (mput (mcpy s.2 (cw k2 36) (cw k 36) 0 0 60) (cw k 1) 3 ((mcpy s.2 (cw k2 36) (cw k 36) 0 0 60) (cw k2 1) 3)) (cw k2 37) (cw k 37) 0 0 24) (cw k2 1) 5)) (cw k2 1) 6)) (cw k 1) 7 ((mput (mput (mcpy (mput (mcpy s.2 (cw k2 36) (cw k 36) 0 0 60) (cw k 1) 3 ((mcpy s.2 (cw k2 36) (cw k 36) 0 0 60) (cw k2 1) 3)) (cw k2 37) (cw k 37) 0 0 24) (cw k 1) 5 ((mcpy (mput (mcpy s.2 (cw k2 36) (cw k 36) 0 0 60) (cw k 1) 3 ((mcpy s.2 (cw k2 36) (cw k 36) 0 0 60) (cw k2 1) 3)) (cw k2 37) (cw k 37) 0 0 24) (cw k2 1) 5)) (cw k 1) 6 ((mput (mcpy (mput (mcpy s.2 (cw k2 36) (cw k 36) 0 0 60) (cw k 1) 3 ((mcpy s.2 (cw k2 36) (cw k 36) 0 0 60) (cw k2 1) 3)) (cw k2 37) (cw k 37) 0 0 24) (cw k 1) 5 ((mcpy (mput (mcpy s.2 (cw k2 36) (cw k 36) 0 0 60) (cw k 1) 3 ((mcpy s.2 (cw k2 36) (cw k 36) 0 0 60) (cw k2 1) 3)) (cw k2 37) (cw k 37) 0 0 24) (cw k2 1) 5)) (cw k2 1) 6)) (cw k2 1) 7)) (cw k 1) 8 ((mput (mput (mput (mcpy (mput (mcpy s.2 (cw k2 36) (cw k 36) 0 0 60) (cw k 1) 3 ((mcpy s.2 (cw k2 36) (cw k 36) 0 0 60) (cw k2 1) 3)) (cw k2 37) (cw k 37) 0 0 24) (cw k 1) 5 ((mcpy (mput (mcpy s.2 (cw k2 36) (cw k 36) 0 0 60) (cw k 1) 3 ((mcpy s.2 (cw k2 36) (cw k 36) 0 0 60) (cw k2 1) 3)) (cw k2 37) (cw k 37) 0 0 24) (cw k2 1) 5)) (cw k 1) 6 ((mput (mcpy (mput (mcpy s.2 (cw k2 36) (cw k 36) 0 0 60) (cw k 1) 3 ((mcpy s.2 (cw k2 36) (cw k 36) 0 0 60) (cw k2 1) 3)) (cw k2 37) (cw k 37) 0 0 24) (cw k 1) 5 ((mcpy (mput (mcpy s.2 (cw k2 36) (cw k 36) 0 0 60) (cw k 1) 3 ((mcpy s.2 (cw k2 36) (cw k 36) 0 0 60) (cw k2 1) 3)) (cw k2 37) (cw k 37) 0 0 24) (cw k2 1) 5)) (cw k2 1) 6)) (cw k 1) 7 ((mput (mput (mcpy (mput (mcpy s.2 (cw k2 36) (cw k 36) 0 0 60) (cw k 1) 3 ((mcpy s.2 (cw k2 36) (cw k 36) 0 0 60) (cw k2 1) 3)) (cw k2 37) (cw k 37) 0 0 24) (cw k 1) 5 ((mcpy (mput (mcpy s.2 (cw k2 36) (cw k 36) 0 0 60) (cw k 1) 3 ((mcpy s.2 (cw k2 36) (cw k 36) 0 0 60) (cw k2 1) 3)) (cw k2 37) (cw k 37) 0 0 24) (cw k2 1) 5)) (cw k 1) 6 ((mput (mcpy (mput (mcpy s.2 (cw k2 36) (cw k 36) 0 0 60) (cw k 1) 3 ((mcpy s.2 (cw k2 36) (cw k 36) 0 0 60) (cw k2 1) 3)) (cw k2 37) (cw k 37) 0 0 24) (cw k 1) 5 ((mcpy (mput (mcpy s.2 (cw k2 36) (cw k 36) 0 0 60) (cw k 1) 3 ((mcpy s.2 (cw k2 36) (cw k 36) 0 0 60) (cw k2 1) 3)) (cw k2 37) (cw k 37) 0 0 24) (cw k2 1) 5)) (cw k2 1) 6)) (cw k2 1) 7)) (cw k2 1) 8)) (cw k 1) 9 ((mput (mput (mput (mput (mcpy (mput (mcpy s.2 (cw k2 36) (cw k 36) 0 0 60) (cw k 1) 3 ((mcpy s.2 (cw k2 36) (cw k 36) 0 0 60) (cw k2 1) 3)) (cw k2 37) (cw k 37) 0 0 24) (cw k 1) 5 ((mcpy (mput (mcpy s.2 (cw k2 36) (cw k 36) 0 0 60) (cw k 1) 3 ((mcpy s.2 (cw k2 36) (cw k 36) 0 0 60) (cw k2 1) 3)) (cw k2 37) (cw k 37) 0 0 24) (cw k2 1) 5)) (cw k 1) 6 ((mput (mcpy (mput (mcpy s.2 (cw k2 36) (cw k 36) 0 0 60) (cw k 1) 3 ((mcpy s.2 (cw k2 36) (cw k 36) 0 0 60) (cw k2 1) 3)) (cw k2 37) (cw k 37) 0 0 24) (cw k 1) 5 ((mcpy (mput (mcpy s.2 (cw k2 36) (cw k 36) 0 0 60) (cw k 1) 3 ((mcpy s.2 (cw k2 36) (cw k 36) 0 0 60) (cw k2 1) 3)) (cw k2 37) (cw k 37) 0 0 24) (cw k2 1) 5)) (cw k2 1) 6)) (cw k 1) 7 ((mput (mput (mcpy (mput (mcpy s.2 (cw k2 36) (cw k 36) 0 0 60) (cw k 1) 3 ((mcpy s.2 (cw k2 36) (cw k 36) 0 0 60) (cw k2 1) 3)) (cw k2 37) (cw k 37) 0 0 24) (cw k 1) 5 ((mcpy (mput (mcpy s.2 (cw k2 36) (cw k 36) 0 0 60) (cw k 1) 3 ((mcpy s.2 (cw k2 36) (cw k 36) 0 0 60) (cw k2 1) 3)) (cw k2 37) (cw k 37) 0 0 24) (cw k2 1) 5)) (cw k 1) 6 ((mput (mcpy (mput (mcpy s.2 (cw k2 36) (cw k 36) 0 0 60) (cw k 1) 3 ((mcpy s.2 (cw k2 36) (cw k 36) 0 0 60) (cw k2 1) 3)) (cw k2 37) (cw k 37) 0 0 24) (cw k 1) 5 ((mcpy (mput (mcpy s.2 (cw k2 36) (cw k 36) 0 0 60) (cw k 1) 3 ((mcpy s.2 (cw k2 36) (cw k 36) 0 0 60) (cw k2 1) 3)) (cw k2 37) (cw k 37) 0 0 24) (cw k2 1) 5)) (cw k2 1) 6)) (cw k2 1) 7)) (cw k 1) 8 ((mput (mput (mput (mcpy (mput (mcpy s.2 (cw k2 36) (cw k 36) 0 0 60) (cw k 1) 3 ((mcpy s.2 (cw k2 36) (cw k 36) 0 0 60) (cw k2 1) 3)) (cw k2 37) (cw k 37) 0 0 24) (cw k 1) 5 ((mcpy (mput (mcpy s.2 (cw k2 36) (cw k 36) 0 0 60) (cw k 1) 3 ((mcpy s.2 (cw k2 36) (cw k 36) 0 0 60) (cw k2 1) 3)) (cw k2 37) (cw k 37) 0 0 24) (cw k2 1) 5)) (cw k 1) 6 ((mput (mcpy (mput (mcpy s.2 (cw k2 36) (cw k 36) 0 0 60) (cw k 1) 3 ((mcpy s.2 (cw k2 36) (cw k 36) 0 0 60) (cw k2 1) 3)) (cw k2 37) (cw k 37) 0 0 24) (cw k 1) 5 ((mcpy (mput (mcpy s.2 (cw k2 36) (cw k 36) 0 0 60) (cw k 1) 3 ((mcpy s.2 (cw k2 36) (cw k 36) 0 0 60) (cw k2 1) 3)) (cw k2 37) (cw k 37) 0 0 24) (cw k2 1) 5)) (cw k2 1) 6)) (cw k 1) 7 ((mput (mput (mcpy (mput (mcpy s.2 (cw k2 36) (cw k 36) 0 0 60) (cw k 1) 3 ((mcpy s.2 (cw k2 36) (cw k 36) 0 0 60) (cw k2 1) 3)) (cw k2 37) (cw k 37) 0 0 24) (cw k 1) 5 ((mcpy (mput (mcpy s.2 (cw k2 36) (cw k 36) 0 0 60) (cw k 1) 3 ((mcpy s.2 (cw k2 36) (cw k 36) 0 0 60) (cw k2 1) 3)) (cw k2 37) (cw k 37) 0 0 24) (cw k2 1) 5)) (cw k 1) 6 ((mput (mcpy (mput (mcpy s.2 (cw k2 36) (cw k 36) 0 0 60) (cw k 1) 3 ((mcpy s.2 (cw k2 36) (cw k 36) 0 0 60) (cw k2 1) 3)) (cw k2 37) (cw k 37) 0 0 24) (cw k 1) 5 ((mcpy (mput (mcpy s.2 (cw k2 36) (cw k 36) 0 0 60) (cw k 1) 3 ((mcpy s.2 (cw k2 36) (cw k 36) 0 0 60) (cw k2 1) 3)) (cw k2 37) (cw k 37) 0 0 24) (cw k2 1) 5)) (cw k2 1) 6)) (cw k2 1) 7)) (cw k2 1) 8)) (cw k2 1) 9)) (cw k2 1) 10)) (cw k2 1) 11))) else (if inb s.1 3 then (if inb s.1 3 then (fX5_copyFrom k s.1.toNatClampNeg k2 s.1.toNatClampNeg s.2).bind fun q4 => some (.inl ((s.1 + (1 : Int32)), q4)) else none) else none))
noncomputable def gX7_copyFrom_13 (xs : List Int32) (d : Nat) (r : jR) (K : Mem → List jE) (k : Nat) (k2 : Nat) (s : Int32 × Mem) : Prop := ∀ L, jget L 0 = some (.ref (cw k 1)) → jget L 1 = some (.ref (cw k2 1)) → jget L 2 = some (.int s.1) → RunD (jcs xs) d 3 (none) jt_X7_copyFrom (13, L, [], (K s.2)) r
noncomputable def fX7_copyFrom (k : Nat) (k2 : Nat) (m : Mem) : Option Mem := (fX0_copyFrom k k2 m).bind fun q1 => lp (lX7_copyFrom_13 k k2) fu ((0 : Int32), q1)
theorem BX7_copyFrom_13 {xs : List Int32} {d : Nat} {r : jR} {K : Mem → List jE} (hK : Ctx shC K) (hd : 2 ≤ d) {k : Nat} {k2 : Nat} (hk : k < 3) (hk2 : k2 < 3)  (s : Int32 × Mem) {t : (Int32 × Mem) ⊕ Mem} (h : lX7_copyFrom_13 k k2 s = some t) (hq : sQ (gX7_copyFrom_13 xs d r K k k2) (qM r K) t) : gX7_copyFrom_13 xs d r K k k2 s := by
  intro L l0 l1 l2
  unfold lX7_copyFrom_13 at h
  refine R_iload_n (p := 14) rfl l2 rfl ?_
  refine R_iconst (p := 15) rfl ki_3 rfl ?_
  by_cases hc : (3 : Int32) ≤ s.1
  · replace h := ite_t h hc
    refine R_icge_t rfl hc ?_
    refine R_aload_n (p := 40) rfl l1 rfl ?_
    refine R_getR (p := 43) (q := (cw k2 36)) hK rfl (s_w1 hk2) rfl rfl ?_
    refine R_iconst (p := 44) rfl ki_0 rfl ?_
    refine R_aload_n (p := 45) rfl l0 rfl ?_
    refine R_getR (p := 48) (q := (cw k 36)) hK rfl (s_w1 hk) rfl rfl ?_
    refine R_iconst (p := 49) rfl ki_0 rfl ?_
    refine R_bipush (p := 51) rfl kb_60 rfl ?_
    refine R_copk (p := 54) hK rfl (s_w36 hk2) (s_w36 hk) (by decide) kn_0.1 kn_0.1 kn_60.1 rfl rfl ?_
    refine R_aload_n (p := 55) rfl l0 rfl ?_
    refine R_aload_n (p := 56) rfl l1 rfl ?_
    refine R_getI (p := 59) hK rfl (s_w1 hk2) rfl rfl ?_
    refine R_putI (p := 62) hK rfl (s_w1 hk) rfl rfl rfl ?_
    refine R_aload_n (p := 63) rfl l1 rfl ?_
    refine R_getR (p := 66) (q := (cw k2 37)) hK rfl (s_w1 hk2) rfl rfl ?_
    refine R_iconst (p := 67) rfl ki_0 rfl ?_
    refine R_aload_n (p := 68) rfl l0 rfl ?_
    refine R_getR (p := 71) (q := (cw k 37)) hK rfl (s_w1 hk) rfl rfl ?_
    refine R_iconst (p := 72) rfl ki_0 rfl ?_
    refine R_bipush (p := 74) rfl kb_24 rfl ?_
    refine R_copk (p := 77) hK rfl (s_w37 hk2) (s_w37 hk) (by decide) kn_0.1 kn_0.1 kn_24.1 rfl rfl ?_
    refine R_aload_n (p := 78) rfl l0 rfl ?_
    refine R_aload_n (p := 79) rfl l1 rfl ?_
    refine R_getI (p := 82) hK rfl (s_w1 hk2) rfl rfl ?_
    refine R_putI (p := 85) hK rfl (s_w1 hk) rfl rfl rfl ?_
    refine R_aload_n (p := 86) rfl l0 rfl ?_
    refine R_aload_n (p := 87) rfl l1 rfl ?_
    refine R_getI (p := 90) hK rfl (s_w1 hk2) rfl rfl ?_
    refine R_putI (p := 93) hK rfl (s_w1 hk) rfl rfl rfl ?_
    refine R_aload_n (p := 94) rfl l0 rfl ?_
    refine R_aload_n (p := 95) rfl l1 rfl ?_
    refine R_getI (p := 98) hK rfl (s_w1 hk2) rfl rfl ?_
    refine R_putI (p := 101) hK rfl (s_w1 hk) rfl rfl rfl ?_
    refine R_aload_n (p := 102) rfl l0 rfl ?_
    refine R_aload_n (p := 103) rfl l1 rfl ?_
    refine R_getI (p := 106) hK rfl (s_w1 hk2) rfl rfl ?_
    refine R_putI (p := 109) hK rfl (s_w1 hk) rfl rfl rfl ?_
    refine R_aload_n (p := 110) rfl l0 rfl ?_
    refine R_aload_n (p := 111) rfl l1 rfl ?_
    refine R_getI (p := 114) hK rfl (s_w1 hk2) rfl rfl ?_
    refine R_putI (p := 117) hK rfl (s_w1 hk) rfl rfl rfl ?_
    refine R_aload_n (p := 118) rfl l0 rfl ?_
    refine R_aload_n (p := 119) rfl l1 rfl ?_
    refine R_getI (p := 122) hK rfl (s_w1 hk2) rfl rfl ?_
    refine R_putI (p := 125) hK rfl (s_w1 hk) rfl rfl rfl ?_
    refine R_aload_n (p := 126) rfl l0 rfl ?_
    refine R_aload_n (p := 127) rfl l1 rfl ?_
    refine R_getI (p := 130) hK rfl (s_w1 hk2) rfl rfl ?_
    refine R_putI (p := 133) hK rfl (s_w1 hk) rfl rfl rfl ?_
    obtain rfl := Option.some.inj h
    exact R_return rfl rfl hq
  · replace h := ite_f h hc
    refine R_icge_f (p := 18) rfl hc rfl ?_
    refine R_aload_n (p := 19) rfl l0 rfl ?_
    refine R_getR (p := 22) (q := (cw k 26)) hK rfl (s_w1 hk) rfl rfl ?_
    refine R_iload_n (p := 23) rfl l2 rfl ?_
    obtain ⟨b2, h⟩ := gd h
    refine R_aald (p := 24) (q := (cw k (27 + 3 * s.1.toNatClampNeg))) hK rfl (s_w26 hk) (by decide) b2.1 (l_text b2.2) rfl ?_
    refine R_aload_n (p := 25) rfl l1 rfl ?_
    refine R_getR (p := 28) (q := (cw k2 26)) hK rfl (s_w1 hk2) rfl rfl ?_
    refine R_iload_n (p := 29) rfl l2 rfl ?_
    obtain ⟨b3, h⟩ := gd h
    refine R_aald (p := 30) (q := (cw k2 (27 + 3 * s.1.toNatClampNeg))) hK rfl (s_w26 hk2) (by decide) b3.1 (l_text b3.2) rfl ?_
    obtain ⟨q4, eq4, h⟩ := bind_some h
    refine R_cV2n (p := 33) hK rfl (s_text hk b2.2) (tfX5_copyFrom hK (Nat.le_trans (by decide) hd) hk b2.2 hk2 b3.2 eq4) rfl rfl ?_
    refine R_iinc (p := 36) rfl l2 rfl ki_1 rfl ?_
    refine R_goto rfl ?_
    obtain rfl := Option.some.inj h
    exact hq _ (jg_ne l0 rfl) (jg_ne l1 rfl) jg_self
theorem LX7_copyFrom_13 {xs : List Int32} {d : Nat} {r : jR} {K : Mem → List jE} (hK : Ctx shC K) (hd : 2 ≤ d) {k : Nat} {k2 : Nat} (hk : k < 3) (hk2 : k2 < 3)  (n : Nat) (s : Int32 × Mem) {t : Mem} (h : lp (lX7_copyFrom_13 k k2) n s = some t) (hq : (qM r K) t) : gX7_copyFrom_13 xs d r K k k2 s := lp_ind (G := gX7_copyFrom_13 xs d r K k k2) (Qe := (qM r K)) (fun s t h hq => BX7_copyFrom_13 hK hd hk hk2 s h hq) n s t h hq
theorem ufX7_copyFrom {xs : List Int32} {d : Nat} {r : jR} {K : Mem → List jE} (hK : Ctx shC K) (hd : 2 ≤ d) {k : Nat} {k2 : Nat} (hk : k < 3) (hk2 : k2 < 3) {m : Mem} {L : List (Nat × Value)} (l0 : jget L 0 = some (.ref (cw k 1))) (l1 : jget L 1 = some (.ref (cw k2 1))) {t : Mem} (h : fX7_copyFrom k k2 m = some t) (hq : (qM r K) t) : RunD (jcs xs) d 3 (none) jt_X7_copyFrom (0, L, [], (K m)) r := by
  unfold fX7_copyFrom at h
  refine R_aload_n (p := 1) rfl l0 rfl ?_
  refine R_getR (p := 4) (q := (cw k 2)) hK rfl (s_w1 hk) rfl rfl ?_
  refine R_aload_n (p := 5) rfl l1 rfl ?_
  refine R_getR (p := 8) (q := (cw k2 2)) hK rfl (s_w1 hk2) rfl rfl ?_
  obtain ⟨q1, eq1, h⟩ := bind_some h
  refine R_cV2n (p := 11) hK rfl (s_w2 hk) (tfX0_copyFrom hK (Nat.le_trans (by decide) hd) hk hk2 eq1) rfl rfl ?_
  refine R_iconst (p := 12) rfl ki_0 rfl ?_
  refine R_istore_n (p := 13) rfl rfl rfl ?_
  exact LX7_copyFrom_13 hK hd hk hk2 _ _ h hq _ (jg_ne l0 rfl) (jg_ne l1 rfl) jg_self
theorem tfX7_copyFrom {xs : List Int32} {d : Nat} {K : Mem → List jE} (hK : Ctx shC K) (hd : 3 ≤ d) {k : Nat} {k2 : Nat} (hk : k < 3) (hk2 : k2 < 3) {m : Mem} {t : Mem} (h : fX7_copyFrom k k2 m = some t) : CallD (jcs xs) d 81 [.ref (cw k 1), .ref (cw k2 1)] (K m) (none, K t) := by
  obtain ⟨d, rfl⟩ : ∃ z, d = z + 1 := ⟨d - 1, by omega⟩
  refine CallD_of jmt_X7_copyFrom rfl ⟨rfl, Nat.le_of_ble_eq_true rfl⟩ ?_
  exact ufX7_copyFrom hK (Nat.le_of_succ_le_succ hd) hk hk2 rfl rfl h rfl
noncomputable def bX8_stands_20 (m : Mem) : Option (Int32 × Mem) := (fX8_no (1 : Int32) m).bind fun q2 => some (q2.1, q2.2)
noncomputable def lX8_stands_60 (x1 : Int32) (x2 : Int32) (s : Int32 × Mem) : Option ((Int32 × Mem) ⊕ (Int32 × Mem)) := (if x2 < s.1 then (fX8_no (2 : Int32) s.2).bind fun q5 => some (.inr (q5.1, q5.2)) else (if x1 < (fX0_howMany 2 s.2) then (if x2 ≤ s.1 then some (.inl ((s.1 + (1 : Int32)), s.2)) else (fX7_goOn 2 s.2).bind fun q7 => some (.inl ((s.1 + (1 : Int32)), q7))) else some (.inr (s.1, s.2))))
noncomputable def gX8_stands_60 (xs : List Int32) (d : Nat) (r : jR) (K : Mem → List jE) (x1 : Int32) (x2 : Int32) (s : Int32 × Mem) : Prop := ∀ L, jget L 0 = some (.ref 0) → jget L 1 = some (.int x1) → jget L 2 = some (.int x2) → jget L 3 = some (.int s.1) → RunD (jcs xs) d 4 (some .int) jt_X8_stands (60, L, [], (K s.2)) r
noncomputable def fX8_stands (x1 : Int32) (x2 : Int32) (m : Mem) : Option (Int32 × Mem) := (if (fX8_within x1 (0 : Int32) (16 : Int32)) = 0 then bX8_stands_20 m else (if (fX8_within x2 (1 : Int32) (60 : Int32)) = 0 then bX8_stands_20 m else (if ((m (cw 0 1) 10) + x2) ≤ (9999 : Int32) then (fX7_copyFrom 2 0 m).bind fun q4 => lp (lX8_stands_60 x1 x2) fu ((0 : Int32), q4) else (fX8_no (3 : Int32) m).bind fun q8 => some (q8.1, q8.2))))
theorem tbX8_stands_20 {xs : List Int32} {d : Nat} {r : jR} {K : Mem → List jE} (hK : Ctx shC K) (hd : 7 ≤ d)  {m : Mem} {L : List (Nat × Value)} (l0 : jget L 0 = some (.ref 0)) {t : (Int32 × Mem)} (h : bX8_stands_20 m = some t) (hq : (qIM r K) t) : RunD (jcs xs) d 4 (some .int) jt_X8_stands (20, L, [], (K m)) r := by
  unfold bX8_stands_20 at h
  refine R_aload_n (p := 21) rfl l0 rfl ?_
  refine R_iconst (p := 22) rfl ki_1 rfl ?_
  obtain ⟨q2, eq2, h⟩ := bind_some h
  refine R_cV2v (p := 25) hK rfl rfl (tfX8_no hK (Nat.le_trans (by decide) hd)  eq2) rfl rfl ?_
  obtain rfl := Option.some.inj h
  exact R_ireturn rfl rfl hq
theorem BX8_stands_60 {xs : List Int32} {d : Nat} {r : jR} {K : Mem → List jE} (hK : Ctx shC K) (hd : 7 ≤ d)  {x1 : Int32} {x2 : Int32} (s : Int32 × Mem) {t : (Int32 × Mem) ⊕ (Int32 × Mem)} (h : lX8_stands_60 x1 x2 s = some t) (hq : sQ (gX8_stands_60 xs d r K x1 x2) (qIM r K) t) : gX8_stands_60 xs d r K x1 x2 s := by
  intro L l0 l1 l2 l3
  unfold lX8_stands_60 at h
  refine R_iload_n (p := 61) rfl l3 rfl ?_
  refine R_iload_n (p := 62) rfl l2 rfl ?_
  by_cases hc : x2 < s.1
  · replace h := ite_t h hc
    refine R_icgt_t rfl hc ?_
    refine R_aload_n (p := 100) rfl l0 rfl ?_
    refine R_iconst (p := 101) rfl ki_2 rfl ?_
    obtain ⟨q5, eq5, h⟩ := bind_some h
    refine R_cV2v (p := 104) hK rfl rfl (tfX8_no hK (Nat.le_trans (by decide) hd)  eq5) rfl rfl ?_
    obtain rfl := Option.some.inj h
    exact R_ireturn rfl rfl hq
  · replace h := ite_f h hc
    refine R_icgt_f (p := 65) rfl hc rfl ?_
    refine R_aload_n (p := 66) rfl l0 rfl ?_
    refine R_getR (p := 69) (q := (cw 2 1)) hK rfl rfl rfl rfl ?_
    refine R_getR (p := 72) (q := (cw 2 2)) hK rfl (s_w1 (by decide)) rfl rfl ?_
    refine R_cV1v (p := 75) hK rfl (s_w2 (by decide)) (tfX0_howMany hK (Nat.le_trans (by decide) hd) (by decide)) rfl rfl ?_
    refine R_iload_n (p := 76) rfl l1 rfl ?_
    by_cases hc : x1 < (fX0_howMany 2 s.2)
    · replace h := ite_t h hc
      refine R_icgt_t rfl hc ?_
      refine R_iload_n (p := 82) rfl l3 rfl ?_
      refine R_iload_n (p := 83) rfl l2 rfl ?_
      by_cases hc : x2 ≤ s.1
      · replace h := ite_t h hc
        refine R_icge_t rfl hc ?_
        refine R_iinc (p := 96) rfl l3 rfl ki_1 rfl ?_
        refine R_goto rfl ?_
        obtain rfl := Option.some.inj h
        exact hq _ (jg_ne l0 rfl) (jg_ne l1 rfl) (jg_ne l2 rfl) jg_self
      · replace h := ite_f h hc
        refine R_icge_f (p := 86) rfl hc rfl ?_
        refine R_aload_n (p := 87) rfl l0 rfl ?_
        refine R_getR (p := 90) (q := (cw 2 1)) hK rfl rfl rfl rfl ?_
        obtain ⟨q7, eq7, h⟩ := bind_some h
        refine R_cV1n (p := 93) hK rfl (s_w1 (by decide)) (tfX7_goOn hK (Nat.le_trans (by decide) hd) (by decide) eq7) rfl rfl ?_
        refine R_iinc (p := 96) rfl l3 rfl ki_1 rfl ?_
        refine R_goto rfl ?_
        obtain rfl := Option.some.inj h
        exact hq _ (jg_ne l0 rfl) (jg_ne l1 rfl) (jg_ne l2 rfl) jg_self
    · replace h := ite_f h hc
      refine R_icgt_f (p := 79) rfl hc rfl ?_
      refine R_iload_n (p := 80) rfl l3 rfl ?_
      obtain rfl := Option.some.inj h
      exact R_ireturn rfl rfl hq
theorem LX8_stands_60 {xs : List Int32} {d : Nat} {r : jR} {K : Mem → List jE} (hK : Ctx shC K) (hd : 7 ≤ d)  {x1 : Int32} {x2 : Int32} (n : Nat) (s : Int32 × Mem) {t : (Int32 × Mem)} (h : lp (lX8_stands_60 x1 x2) n s = some t) (hq : (qIM r K) t) : gX8_stands_60 xs d r K x1 x2 s := lp_ind (G := gX8_stands_60 xs d r K x1 x2) (Qe := (qIM r K)) (fun s t h hq => BX8_stands_60 hK hd s h hq) n s t h hq
theorem ufX8_stands {xs : List Int32} {d : Nat} {r : jR} {K : Mem → List jE} (hK : Ctx shC K) (hd : 7 ≤ d) {x1 : Int32} {x2 : Int32} {m : Mem} {L : List (Nat × Value)} (l0 : jget L 0 = some (.ref 0)) (l1 : jget L 1 = some (.int x1)) (l2 : jget L 2 = some (.int x2)) {t : (Int32 × Mem)} (h : fX8_stands x1 x2 m = some t) (hq : (qIM r K) t) : RunD (jcs xs) d 4 (some .int) jt_X8_stands (0, L, [], (K m)) r := by
  unfold fX8_stands at h
  refine R_iload_n (p := 1) rfl l1 rfl ?_
  refine R_iconst (p := 2) rfl ki_0 rfl ?_
  refine R_bipush (p := 4) rfl kb_16 rfl ?_
  refine R_cS3v (p := 7) rfl (tfX8_within (Nat.le_trans (by decide) hd) ) rfl rfl ?_
  by_cases hc : (fX8_within x1 (0 : Int32) (16 : Int32)) = 0
  · replace h := ite_t h hc
    refine R_ifeq_t rfl hc ?_
    exact tbX8_stands_20 hK hd l0 h hq
  · replace h := ite_f h hc
    refine R_ifeq_f (p := 10) rfl hc rfl ?_
    refine R_iload_n (p := 11) rfl l2 rfl ?_
    refine R_iconst (p := 12) rfl ki_1 rfl ?_
    refine R_bipush (p := 14) rfl kb_60 rfl ?_
    refine R_cS3v (p := 17) rfl (tfX8_within (Nat.le_trans (by decide) hd) ) rfl rfl ?_
    by_cases hc : (fX8_within x2 (1 : Int32) (60 : Int32)) = 0
    · replace h := ite_t h hc
      refine R_ifne_f (p := 20) rfl (fun z => z hc) rfl ?_
      exact tbX8_stands_20 hK hd l0 h hq
    · replace h := ite_f h hc
      refine R_ifne_t rfl hc ?_
      refine R_aload_n (p := 27) rfl l0 rfl ?_
      refine R_getR (p := 30) (q := (cw 0 1)) hK rfl rfl rfl rfl ?_
      refine R_getI (p := 33) hK rfl (s_w1 (by decide)) rfl rfl ?_
      refine R_iload_n (p := 34) rfl l2 rfl ?_
      refine R_iadd (p := 35) rfl rfl ?_
      refine R_sipush (p := 38) rfl ks_9999 rfl ?_
      by_cases hc : ((m (cw 0 1) 10) + x2) ≤ (9999 : Int32)
      · replace h := ite_t h hc
        refine R_icle_t rfl hc ?_
        refine R_aload_n (p := 48) rfl l0 rfl ?_
        refine R_getR (p := 51) (q := (cw 2 1)) hK rfl rfl rfl rfl ?_
        refine R_aload_n (p := 52) rfl l0 rfl ?_
        refine R_getR (p := 55) (q := (cw 0 1)) hK rfl rfl rfl rfl ?_
        obtain ⟨q4, eq4, h⟩ := bind_some h
        refine R_cV2n (p := 58) hK rfl (s_w1 (by decide)) (tfX7_copyFrom hK (Nat.le_trans (by decide) hd) (by decide) (by decide) eq4) rfl rfl ?_
        refine R_iconst (p := 59) rfl ki_0 rfl ?_
        refine R_istore_n (p := 60) rfl rfl rfl ?_
        exact LX8_stands_60 hK hd _ _ h hq _ (jg_ne l0 rfl) (jg_ne l1 rfl) (jg_ne l2 rfl) jg_self
      · replace h := ite_f h hc
        refine R_icle_f (p := 41) rfl hc rfl ?_
        refine R_aload_n (p := 42) rfl l0 rfl ?_
        refine R_iconst (p := 43) rfl ki_3 rfl ?_
        obtain ⟨q8, eq8, h⟩ := bind_some h
        refine R_cV2v (p := 46) hK rfl rfl (tfX8_no hK (Nat.le_trans (by decide) hd)  eq8) rfl rfl ?_
        obtain rfl := Option.some.inj h
        exact R_ireturn rfl rfl hq
theorem tfX8_stands {xs : List Int32} {d : Nat} {K : Mem → List jE} (hK : Ctx shC K) (hd : 8 ≤ d) {x1 : Int32} {x2 : Int32} {m : Mem} {t : (Int32 × Mem)} (h : fX8_stands x1 x2 m = some t) : CallD (jcs xs) d 123 [.ref 0, .int x1, .int x2] (K m) (some (.int t.1), K t.2) := by
  obtain ⟨d, rfl⟩ : ∃ z, d = z + 1 := ⟨d - 1, by omega⟩
  refine CallD_of jmt_X8_stands rfl ⟨rfl, Nat.le_of_ble_eq_true rfl⟩ ?_
  exact ufX8_stands hK (Nat.le_of_succ_le_succ hd) rfl rfl rfl h rfl
noncomputable def lX9_copy_1082_1082_2 (c0 : Nat) (c1 : Nat) (s : Int32 × Mem) : Option ((Int32 × Mem) ⊕ Mem) := (if (1082 : Int32) ≤ s.1 then some (.inr s.2) else (if inb s.1 1082 then (if inb s.1 1082 then some (.inl ((s.1 + (1 : Int32)), (mput s.2 c1 s.1.toNatClampNeg (s.2 c0 s.1.toNatClampNeg)))) else none) else none))
noncomputable def gX9_copy_1082_1082_2 (xs : List Int32) (d : Nat) (r : jR) (K : Mem → List jE) (c0 : Nat) (c1 : Nat) (s : Int32 × Mem) : Prop := ∀ L, jget L 0 = some (.ref c0) → jget L 1 = some (.ref c1) → jget L 2 = some (.int s.1) → RunD (jcs xs) d 3 (none) jt_X9_copy (2, L, [], (K s.2)) r
noncomputable def fX9_copy_1082_1082 (c0 : Nat) (c1 : Nat) (m : Mem) : Option Mem := lp (lX9_copy_1082_1082_2 c0 c1) fu ((0 : Int32), m)
theorem BX9_copy_1082_1082_2 {xs : List Int32} {d : Nat} {r : jR} {K : Mem → List jE} (hK : Ctx shR K) (hd : 0 ≤ d) {c0 : Nat} {c1 : Nat} (hc0 : shR c0 = some (.inr (.inl 1082))) (hc1 : shR c1 = some (.inr (.inl 1082)))  (s : Int32 × Mem) {t : (Int32 × Mem) ⊕ Mem} (h : lX9_copy_1082_1082_2 c0 c1 s = some t) (hq : sQ (gX9_copy_1082_1082_2 xs d r K c0 c1) (qM r K) t) : gX9_copy_1082_1082_2 xs d r K c0 c1 s := by
  intro L l0 l1 l2
  unfold lX9_copy_1082_1082_2 at h
  refine R_iload_n (p := 3) rfl l2 rfl ?_
  refine R_sipush (p := 6) rfl ks_1082 rfl ?_
  by_cases hc : (1082 : Int32) ≤ s.1
  · replace h := ite_t h hc
    refine R_icge_t rfl hc ?_
    obtain rfl := Option.some.inj h
    exact R_return rfl rfl hq
  · replace h := ite_f h hc
    refine R_icge_f (p := 9) rfl hc rfl ?_
    refine R_aload_n (p := 10) rfl l1 rfl ?_
    refine R_iload_n (p := 11) rfl l2 rfl ?_
    refine R_aload_n (p := 12) rfl l0 rfl ?_
    refine R_iload_n (p := 13) rfl l2 rfl ?_
    obtain ⟨b1, h⟩ := gd h
    refine R_iald (p := 14) hK rfl hc0 b1 rfl ?_
    obtain ⟨b2, h⟩ := gd h
    refine R_iast (p := 15) hK rfl hc1 b2 rfl ?_
    refine R_iinc (p := 18) rfl l2 rfl ki_1 rfl ?_
    refine R_goto rfl ?_
    obtain rfl := Option.some.inj h
    exact hq _ (jg_ne l0 rfl) (jg_ne l1 rfl) jg_self
theorem LX9_copy_1082_1082_2 {xs : List Int32} {d : Nat} {r : jR} {K : Mem → List jE} (hK : Ctx shR K) (hd : 0 ≤ d) {c0 : Nat} {c1 : Nat} (hc0 : shR c0 = some (.inr (.inl 1082))) (hc1 : shR c1 = some (.inr (.inl 1082)))  (n : Nat) (s : Int32 × Mem) {t : Mem} (h : lp (lX9_copy_1082_1082_2 c0 c1) n s = some t) (hq : (qM r K) t) : gX9_copy_1082_1082_2 xs d r K c0 c1 s := lp_ind (G := gX9_copy_1082_1082_2 xs d r K c0 c1) (Qe := (qM r K)) (fun s t h hq => BX9_copy_1082_1082_2 hK hd hc0 hc1 s h hq) n s t h hq
theorem ufX9_copy_1082_1082 {xs : List Int32} {d : Nat} {r : jR} {K : Mem → List jE} (hK : Ctx shR K) (hd : 0 ≤ d) {c0 : Nat} {c1 : Nat} (hc0 : shR c0 = some (.inr (.inl 1082))) (hc1 : shR c1 = some (.inr (.inl 1082))) {m : Mem} {L : List (Nat × Value)} (l0 : jget L 0 = some (.ref c0)) (l1 : jget L 1 = some (.ref c1)) {t : Mem} (h : fX9_copy_1082_1082 c0 c1 m = some t) (hq : (qM r K) t) : RunD (jcs xs) d 3 (none) jt_X9_copy (0, L, [], (K m)) r := by
  unfold fX9_copy_1082_1082 at h
  refine R_iconst (p := 1) rfl ki_0 rfl ?_
  refine R_istore_n (p := 2) rfl rfl rfl ?_
  exact LX9_copy_1082_1082_2 hK hd hc0 hc1 _ _ h hq _ (jg_ne l0 rfl) (jg_ne l1 rfl) jg_self
theorem tfX9_copy_1082_1082 {xs : List Int32} {d : Nat} {K : Mem → List jE} (hK : Ctx shR K) (hd : 1 ≤ d) {c0 : Nat} {c1 : Nat} (hc0 : shR c0 = some (.inr (.inl 1082))) (hc1 : shR c1 = some (.inr (.inl 1082))) {m : Mem} {t : Mem} (h : fX9_copy_1082_1082 c0 c1 m = some t) : CallD (jcs xs) d 150 [.ref c0, .ref c1] (K m) (none, K t) := by
  obtain ⟨d, rfl⟩ : ∃ z, d = z + 1 := ⟨d - 1, by omega⟩
  refine CallD_of jmt_X9_copy rfl ⟨rfl, Nat.le_of_ble_eq_true rfl⟩ ?_
  exact ufX9_copy_1082_1082 hK (Nat.le_of_succ_le_succ hd) hc0 hc1 rfl rfl h rfl
noncomputable def bX9_stands_20 (m : Mem) : Option (Int32 × Mem) := (fX9_finding (-1000001 : Int32) m).bind fun q2 => some (q2.1, q2.2)
noncomputable def bX9_stands_97 (x3 : Int32) (y0 : Int32) (m : Mem) : Option (Int32 × Mem) := (fX9_copy_1082_1082 140 138 m).bind fun q6 => (if y0 = 0 then (fX9_finding (-1000002 : Int32) q6).bind fun q7 => some (q7.1, q7.2) else some (x3, q6))
noncomputable def bX9_stands_84 (x1 : Int32) (x3 : Int32) (m : Mem) : Option (Int32 × Mem) := (fX9_many m).bind fun q5 => (if x1 < q5 then bX9_stands_97 x3 (0 : Int32) m else bX9_stands_97 x3 (1 : Int32) m)
noncomputable def lX9_stands_61 (x1 : Int32) (x2 : Int32) (s : Int32 × Mem) : Option ((Int32 × Mem) ⊕ (Int32 × Mem)) := (if x2 ≤ s.1 then (bX9_stands_84 x1 s.1 s.2).map Sum.inr else (fX9_many s.2).bind fun q8 => (if q8 ≤ x1 then (bX9_stands_84 x1 s.1 s.2).map Sum.inr else (fX9_ticks s.2).bind fun q9 => some (.inl ((s.1 + (1 : Int32)), q9))))
noncomputable def gX9_stands_61 (xs : List Int32) (d : Nat) (r : jR) (K : Mem → List jE) (x1 : Int32) (x2 : Int32) (s : Int32 × Mem) : Prop := ∀ L, jget L 0 = some (.ref 137) → jget L 1 = some (.int x1) → jget L 2 = some (.int x2) → jget L 3 = some (.int s.1) → RunD (jcs xs) d 5 (some .int) jt_X9_stands (61, L, [], (K s.2)) r
noncomputable def fX9_stands (x1 : Int32) (x2 : Int32) (m : Mem) : Option (Int32 × Mem) := (if (fX9_within x1 (0 : Int32) (16 : Int32)) = 0 then bX9_stands_20 m else (if (fX9_within x2 (1 : Int32) (60 : Int32)) = 0 then bX9_stands_20 m else (if ((m 138 0) + x2) ≤ (9999 : Int32) then (fX9_copy_1082_1082 138 140 m).bind fun q4 => lp (lX9_stands_61 x1 x2) fu ((0 : Int32), q4) else (fX9_finding (-1000003 : Int32) m).bind fun q10 => some (q10.1, q10.2))))
theorem tbX9_stands_20 {xs : List Int32} {d : Nat} {r : jR} {K : Mem → List jE} (hK : Ctx shR K) (hd : 7 ≤ d)  {m : Mem} {L : List (Nat × Value)} (l0 : jget L 0 = some (.ref 137)) {t : (Int32 × Mem)} (h : bX9_stands_20 m = some t) (hq : (qIM r K) t) : RunD (jcs xs) d 5 (some .int) jt_X9_stands (20, L, [], (K m)) r := by
  unfold bX9_stands_20 at h
  refine R_aload_n (p := 21) rfl l0 rfl ?_
  refine R_ldc (p := 23) rfl kl_m1000001 rfl ?_
  obtain ⟨q2, eq2, h⟩ := bind_some h
  refine R_cV2v (p := 26) hK rfl rfl (tfX9_finding hK (Nat.le_trans (by decide) hd)  eq2) rfl rfl ?_
  obtain rfl := Option.some.inj h
  exact R_ireturn rfl rfl hq
theorem tbX9_stands_97 {xs : List Int32} {d : Nat} {r : jR} {K : Mem → List jE} (hK : Ctx shR K) (hd : 7 ≤ d)  {x3 : Int32} {y0 : Int32} {m : Mem} {L : List (Nat × Value)} (l0 : jget L 0 = some (.ref 137)) (l3 : jget L 3 = some (.int x3)) {t : (Int32 × Mem)} (h : bX9_stands_97 x3 y0 m = some t) (hq : (qIM r K) t) : RunD (jcs xs) d 5 (some .int) jt_X9_stands (97, L, [.int y0], (K m)) r := by
  unfold bX9_stands_97 at h
  refine R_istore (p := 99) rfl rfl rfl ?_
  refine R_aload_n (p := 100) rfl (jg_ne l0 rfl) rfl ?_
  refine R_getR (p := 103) (q := 140) hK rfl rfl rfl rfl ?_
  refine R_aload_n (p := 104) rfl (jg_ne l0 rfl) rfl ?_
  refine R_getR (p := 107) (q := 138) hK rfl rfl rfl rfl ?_
  obtain ⟨q6, eq6, h⟩ := bind_some h
  refine R_cS2n (p := 110) rfl (tfX9_copy_1082_1082 hK (Nat.le_trans (by decide) hd) rfl rfl eq6) rfl rfl ?_
  refine R_iload (p := 112) rfl jg_self rfl ?_
  by_cases hc : y0 = 0
  · replace h := ite_t h hc
    refine R_ifeq_t rfl hc ?_
    refine R_aload_n (p := 120) rfl (jg_ne l0 rfl) rfl ?_
    refine R_ldc (p := 122) rfl kl_m1000002 rfl ?_
    obtain ⟨q7, eq7, h⟩ := bind_some h
    refine R_cV2v (p := 125) hK rfl rfl (tfX9_finding hK (Nat.le_trans (by decide) hd)  eq7) rfl rfl ?_
    obtain rfl := Option.some.inj h
    exact R_ireturn rfl rfl hq
  · replace h := ite_f h hc
    refine R_ifeq_f (p := 115) rfl hc rfl ?_
    refine R_iload_n (p := 116) rfl (jg_ne l3 rfl) rfl ?_
    refine R_goto rfl ?_
    obtain rfl := Option.some.inj h
    exact R_ireturn rfl rfl hq
theorem tbX9_stands_84 {xs : List Int32} {d : Nat} {r : jR} {K : Mem → List jE} (hK : Ctx shR K) (hd : 7 ≤ d)  {x1 : Int32} {x3 : Int32} {m : Mem} {L : List (Nat × Value)} (l0 : jget L 0 = some (.ref 137)) (l1 : jget L 1 = some (.int x1)) (l3 : jget L 3 = some (.int x3)) {t : (Int32 × Mem)} (h : bX9_stands_84 x1 x3 m = some t) (hq : (qIM r K) t) : RunD (jcs xs) d 5 (some .int) jt_X9_stands (84, L, [], (K m)) r := by
  unfold bX9_stands_84 at h
  refine R_aload_n (p := 85) rfl l0 rfl ?_
  obtain ⟨q5, eq5, h⟩ := bind_some h
  refine R_cV1v (p := 88) hK rfl rfl (tfX9_many hK (Nat.le_trans (by decide) hd)  eq5) rfl rfl ?_
  refine R_iload_n (p := 89) rfl l1 rfl ?_
  by_cases hc : x1 < q5
  · replace h := ite_t h hc
    refine R_icgt_t rfl hc ?_
    refine R_iconst (p := 97) rfl ki_0 rfl ?_
    exact tbX9_stands_97 hK hd l0 l3 h hq
  · replace h := ite_f h hc
    refine R_icgt_f (p := 92) rfl hc rfl ?_
    refine R_iconst (p := 93) rfl ki_1 rfl ?_
    refine R_goto rfl ?_
    exact tbX9_stands_97 hK hd l0 l3 h hq
theorem BX9_stands_61 {xs : List Int32} {d : Nat} {r : jR} {K : Mem → List jE} (hK : Ctx shR K) (hd : 7 ≤ d)  {x1 : Int32} {x2 : Int32} (s : Int32 × Mem) {t : (Int32 × Mem) ⊕ (Int32 × Mem)} (h : lX9_stands_61 x1 x2 s = some t) (hq : sQ (gX9_stands_61 xs d r K x1 x2) (qIM r K) t) : gX9_stands_61 xs d r K x1 x2 s := by
  intro L l0 l1 l2 l3
  unfold lX9_stands_61 at h
  refine R_iload_n (p := 62) rfl l3 rfl ?_
  refine R_iload_n (p := 63) rfl l2 rfl ?_
  by_cases hc : x2 ≤ s.1
  · replace h := ite_t h hc
    refine R_icge_t rfl hc ?_
    obtain ⟨w9, h9, rfl⟩ := map_inr h
    replace h := h9
    exact tbX9_stands_84 hK hd l0 l1 l3 h hq
  · replace h := ite_f h hc
    refine R_icge_f (p := 66) rfl hc rfl ?_
    refine R_aload_n (p := 67) rfl l0 rfl ?_
    obtain ⟨q8, eq8, h⟩ := bind_some h
    refine R_cV1v (p := 70) hK rfl rfl (tfX9_many hK (Nat.le_trans (by decide) hd)  eq8) rfl rfl ?_
    refine R_iload_n (p := 71) rfl l1 rfl ?_
    by_cases hc : q8 ≤ x1
    · replace h := ite_t h hc
      refine R_icle_t rfl hc ?_
      obtain ⟨w9, h9, rfl⟩ := map_inr h
      replace h := h9
      exact tbX9_stands_84 hK hd l0 l1 l3 h hq
    · replace h := ite_f h hc
      refine R_icle_f (p := 74) rfl hc rfl ?_
      refine R_aload_n (p := 75) rfl l0 rfl ?_
      obtain ⟨q9, eq9, h⟩ := bind_some h
      refine R_cV1n (p := 78) hK rfl rfl (tfX9_ticks hK (Nat.le_trans (by decide) hd)  eq9) rfl rfl ?_
      refine R_iinc (p := 81) rfl l3 rfl ki_1 rfl ?_
      refine R_goto rfl ?_
      obtain rfl := Option.some.inj h
      exact hq _ (jg_ne l0 rfl) (jg_ne l1 rfl) (jg_ne l2 rfl) jg_self
theorem LX9_stands_61 {xs : List Int32} {d : Nat} {r : jR} {K : Mem → List jE} (hK : Ctx shR K) (hd : 7 ≤ d)  {x1 : Int32} {x2 : Int32} (n : Nat) (s : Int32 × Mem) {t : (Int32 × Mem)} (h : lp (lX9_stands_61 x1 x2) n s = some t) (hq : (qIM r K) t) : gX9_stands_61 xs d r K x1 x2 s := lp_ind (G := gX9_stands_61 xs d r K x1 x2) (Qe := (qIM r K)) (fun s t h hq => BX9_stands_61 hK hd s h hq) n s t h hq
theorem ufX9_stands {xs : List Int32} {d : Nat} {r : jR} {K : Mem → List jE} (hK : Ctx shR K) (hd : 7 ≤ d) {x1 : Int32} {x2 : Int32} {m : Mem} {L : List (Nat × Value)} (l0 : jget L 0 = some (.ref 137)) (l1 : jget L 1 = some (.int x1)) (l2 : jget L 2 = some (.int x2)) {t : (Int32 × Mem)} (h : fX9_stands x1 x2 m = some t) (hq : (qIM r K) t) : RunD (jcs xs) d 5 (some .int) jt_X9_stands (0, L, [], (K m)) r := by
  unfold fX9_stands at h
  refine R_iload_n (p := 1) rfl l1 rfl ?_
  refine R_iconst (p := 2) rfl ki_0 rfl ?_
  refine R_bipush (p := 4) rfl kb_16 rfl ?_
  refine R_cS3v (p := 7) rfl (tfX9_within (Nat.le_trans (by decide) hd) ) rfl rfl ?_
  by_cases hc : (fX9_within x1 (0 : Int32) (16 : Int32)) = 0
  · replace h := ite_t h hc
    refine R_ifeq_t rfl hc ?_
    exact tbX9_stands_20 hK hd l0 h hq
  · replace h := ite_f h hc
    refine R_ifeq_f (p := 10) rfl hc rfl ?_
    refine R_iload_n (p := 11) rfl l2 rfl ?_
    refine R_iconst (p := 12) rfl ki_1 rfl ?_
    refine R_bipush (p := 14) rfl kb_60 rfl ?_
    refine R_cS3v (p := 17) rfl (tfX9_within (Nat.le_trans (by decide) hd) ) rfl rfl ?_
    by_cases hc : (fX9_within x2 (1 : Int32) (60 : Int32)) = 0
    · replace h := ite_t h hc
      refine R_ifne_f (p := 20) rfl (fun z => z hc) rfl ?_
      exact tbX9_stands_20 hK hd l0 h hq
    · replace h := ite_f h hc
      refine R_ifne_t rfl hc ?_
      refine R_aload_n (p := 28) rfl l0 rfl ?_
      refine R_getR (p := 31) (q := 138) hK rfl rfl rfl rfl ?_
      refine R_iconst (p := 32) rfl ki_0 rfl ?_
      refine R_ialk (p := 33) hK rfl rfl (by decide) kn_0 rfl ?_
      refine R_iload_n (p := 34) rfl l2 rfl ?_
      refine R_iadd (p := 35) rfl rfl ?_
      refine R_sipush (p := 38) rfl ks_9999 rfl ?_
      by_cases hc : ((m 138 0) + x2) ≤ (9999 : Int32)
      · replace h := ite_t h hc
        refine R_icle_t rfl hc ?_
        refine R_aload_n (p := 49) rfl l0 rfl ?_
        refine R_getR (p := 52) (q := 138) hK rfl rfl rfl rfl ?_
        refine R_aload_n (p := 53) rfl l0 rfl ?_
        refine R_getR (p := 56) (q := 140) hK rfl rfl rfl rfl ?_
        obtain ⟨q4, eq4, h⟩ := bind_some h
        refine R_cS2n (p := 59) rfl (tfX9_copy_1082_1082 hK (Nat.le_trans (by decide) hd) rfl rfl eq4) rfl rfl ?_
        refine R_iconst (p := 60) rfl ki_0 rfl ?_
        refine R_istore_n (p := 61) rfl rfl rfl ?_
        exact LX9_stands_61 hK hd _ _ h hq _ (jg_ne l0 rfl) (jg_ne l1 rfl) (jg_ne l2 rfl) jg_self
      · replace h := ite_f h hc
        refine R_icle_f (p := 41) rfl hc rfl ?_
        refine R_aload_n (p := 42) rfl l0 rfl ?_
        refine R_ldc (p := 44) rfl kl_m1000003 rfl ?_
        obtain ⟨q10, eq10, h⟩ := bind_some h
        refine R_cV2v (p := 47) hK rfl rfl (tfX9_finding hK (Nat.le_trans (by decide) hd)  eq10) rfl rfl ?_
        obtain rfl := Option.some.inj h
        exact R_ireturn rfl rfl hq
theorem tfX9_stands {xs : List Int32} {d : Nat} {K : Mem → List jE} (hK : Ctx shR K) (hd : 8 ≤ d) {x1 : Int32} {x2 : Int32} {m : Mem} {t : (Int32 × Mem)} (h : fX9_stands x1 x2 m = some t) : CallD (jcs xs) d 222 [.ref 137, .int x1, .int x2] (K m) (some (.int t.1), K t.2) := by
  obtain ⟨d, rfl⟩ : ∃ z, d = z + 1 := ⟨d - 1, by omega⟩
  refine CallD_of jmt_X9_stands rfl ⟨rfl, Nat.le_of_ble_eq_true rfl⟩ ?_
  exact ufX9_stands hK (Nat.le_of_succ_le_succ hd) rfl rfl rfl h rfl
noncomputable def fX8_seed (x1 : Int32) (m : Mem) : Option (Int32 × Mem) := some ((m (cw 0 1) 9), (mput m (cw 0 1) 9 x1))
theorem ufX8_seed {xs : List Int32} {d : Nat} {r : jR} {K : Mem → List jE} (hK : Ctx shC K) (hd : 0 ≤ d) {x1 : Int32} {m : Mem} {L : List (Nat × Value)} (l0 : jget L 0 = some (.ref 0)) (l1 : jget L 1 = some (.int x1)) {t : (Int32 × Mem)} (h : fX8_seed x1 m = some t) (hq : (qIM r K) t) : RunD (jcs xs) d 3 (some .int) jt_X8_seed (0, L, [], (K m)) r := by
  unfold fX8_seed at h
  refine R_aload_n (p := 1) rfl l0 rfl ?_
  refine R_getR (p := 4) (q := (cw 0 1)) hK rfl rfl rfl rfl ?_
  refine R_getI (p := 7) hK rfl (s_w1 (by decide)) rfl rfl ?_
  refine R_istore_n (p := 8) rfl rfl rfl ?_
  refine R_aload_n (p := 9) rfl (jg_ne l0 rfl) rfl ?_
  refine R_getR (p := 12) (q := (cw 0 1)) hK rfl rfl rfl rfl ?_
  refine R_iload_n (p := 13) rfl (jg_ne l1 rfl) rfl ?_
  refine R_putI (p := 16) hK rfl (s_w1 (by decide)) rfl rfl rfl ?_
  refine R_iload_n (p := 17) rfl jg_self rfl ?_
  obtain rfl := Option.some.inj h
  exact R_ireturn rfl rfl hq
theorem tfX8_seed {xs : List Int32} {d : Nat} {K : Mem → List jE} (hK : Ctx shC K) (hd : 1 ≤ d) {x1 : Int32} {m : Mem} {t : (Int32 × Mem)} (h : fX8_seed x1 m = some t) : CallD (jcs xs) d 124 [.ref 0, .int x1] (K m) (some (.int t.1), K t.2) := by
  obtain ⟨d, rfl⟩ : ∃ z, d = z + 1 := ⟨d - 1, by omega⟩
  refine CallD_of jmt_X8_seed rfl ⟨rfl, Nat.le_of_ble_eq_true rfl⟩ ?_
  exact ufX8_seed hK (Nat.le_of_succ_le_succ hd) rfl rfl h rfl
noncomputable def fX9_seed (x1 : Int32) (m : Mem) : Option (Int32 × Mem) := (fX9_comes (3 : Int32) x1 m).bind fun q1 => some (q1.1, q1.2)
theorem ufX9_seed {xs : List Int32} {d : Nat} {r : jR} {K : Mem → List jE} (hK : Ctx shR K) (hd : 1 ≤ d) {x1 : Int32} {m : Mem} {L : List (Nat × Value)} (l0 : jget L 0 = some (.ref 137)) (l1 : jget L 1 = some (.int x1)) {t : (Int32 × Mem)} (h : fX9_seed x1 m = some t) (hq : (qIM r K) t) : RunD (jcs xs) d 2 (some .int) jt_X9_seed (0, L, [], (K m)) r := by
  unfold fX9_seed at h
  refine R_aload_n (p := 1) rfl l0 rfl ?_
  refine R_iconst (p := 2) rfl ki_3 rfl ?_
  refine R_iload_n (p := 3) rfl l1 rfl ?_
  obtain ⟨q1, eq1, h⟩ := bind_some h
  refine R_cV3v (p := 6) hK rfl rfl (tfX9_comes hK (Nat.le_trans (by decide) hd)  eq1) rfl rfl ?_
  obtain rfl := Option.some.inj h
  exact R_ireturn rfl rfl hq
theorem tfX9_seed {xs : List Int32} {d : Nat} {K : Mem → List jE} (hK : Ctx shR K) (hd : 2 ≤ d) {x1 : Int32} {m : Mem} {t : (Int32 × Mem)} (h : fX9_seed x1 m = some t) : CallD (jcs xs) d 223 [.ref 137, .int x1] (K m) (some (.int t.1), K t.2) := by
  obtain ⟨d, rfl⟩ : ∃ z, d = z + 1 := ⟨d - 1, by omega⟩
  refine CallD_of jmt_X9_seed rfl ⟨rfl, Nat.le_of_ble_eq_true rfl⟩ ?_
  exact ufX9_seed hK (Nat.le_of_succ_le_succ hd) rfl rfl h rfl
noncomputable def lX0_together_16_4 (k : Nat) (c1 : Nat) (m : Mem) (s : Int32 × Int32) : Option ((Int32 × Int32) ⊕ Int32) := (if (16 : Int32) ≤ s.2 then some (.inr s.1) else (if (16 : Int32) ≤ s.2 then some (.inr s.1) else (if (fX0_has k s.2 m) = 0 then some (.inl (s.1, (s.2 + (1 : Int32)))) else (if inb s.2 16 then some (.inl ((s.1 + (m c1 s.2.toNatClampNeg)), (s.2 + (1 : Int32)))) else none))))
noncomputable def gX0_together_16_4 (xs : List Int32) (d : Nat) (r : jR) (K : Mem → List jE) (k : Nat) (c1 : Nat) (m : Mem) (s : Int32 × Int32) : Prop := ∀ L, jget L 0 = some (.ref (cw k 2)) → jget L 1 = some (.ref c1) → jget L 2 = some (.int s.1) → jget L 3 = some (.int s.2) → RunD (jcs xs) d 4 (some .int) jt_X0_together (4, L, [], (K m)) r
noncomputable def fX0_together_16 (k : Nat) (c1 : Nat) (m : Mem) : Option Int32 := lp (lX0_together_16_4 k c1 m) fu ((0 : Int32), (0 : Int32))
theorem BX0_together_16_4 {xs : List Int32} {d : Nat} {r : jR} {K : Mem → List jE} (hK : Ctx shC K) (hd : 1 ≤ d) {k : Nat} {c1 : Nat} (hk : k < 3) (hc1 : shC c1 = some (.inr (.inl 16)))  {m : Mem} (s : Int32 × Int32) {t : (Int32 × Int32) ⊕ Int32} (h : lX0_together_16_4 k c1 m s = some t) (hq : sQ (gX0_together_16_4 xs d r K k c1 m) (qI r (K m)) t) : gX0_together_16_4 xs d r K k c1 m s := by
  intro L l0 l1 l2 l3
  unfold lX0_together_16_4 at h
  refine R_iload_n (p := 5) rfl l3 rfl ?_
  refine R_bipush (p := 7) rfl kb_16 rfl ?_
  by_cases hc : (16 : Int32) ≤ s.2
  · replace h := ite_t h hc
    refine R_icge_t rfl hc ?_
    refine R_iload_n (p := 37) rfl l2 rfl ?_
    obtain rfl := Option.some.inj h
    exact R_ireturn rfl rfl hq
  · replace h := ite_f h hc
    refine R_icge_f (p := 10) rfl hc rfl ?_
    refine R_iload_n (p := 11) rfl l3 rfl ?_
    refine R_aload_n (p := 12) rfl l1 rfl ?_
    refine R_alen (p := 13) (x := (16 : Int32)) hK rfl hc1 rfl rfl ?_
    by_cases hc : (16 : Int32) ≤ s.2
    · replace h := ite_t h hc
      refine R_icge_t rfl hc ?_
      refine R_iload_n (p := 37) rfl l2 rfl ?_
      obtain rfl := Option.some.inj h
      exact R_ireturn rfl rfl hq
    · replace h := ite_f h hc
      refine R_icge_f (p := 16) rfl hc rfl ?_
      refine R_aload_n (p := 17) rfl l0 rfl ?_
      refine R_iload_n (p := 18) rfl l3 rfl ?_
      refine R_cV2v (p := 21) hK rfl (s_w2 hk) (tfX0_has hK (Nat.le_trans (by decide) hd) hk) rfl rfl ?_
      by_cases hc : (fX0_has k s.2 m) = 0
      · replace h := ite_t h hc
        refine R_ifeq_t rfl hc ?_
        refine R_iinc (p := 33) rfl l3 rfl ki_1 rfl ?_
        refine R_goto rfl ?_
        obtain rfl := Option.some.inj h
        exact hq _ (jg_ne l0 rfl) (jg_ne l1 rfl) (jg_ne l2 rfl) jg_self
      · replace h := ite_f h hc
        refine R_ifeq_f (p := 24) rfl hc rfl ?_
        refine R_iload_n (p := 25) rfl l2 rfl ?_
        refine R_aload_n (p := 26) rfl l1 rfl ?_
        refine R_iload_n (p := 27) rfl l3 rfl ?_
        obtain ⟨b2, h⟩ := gd h
        refine R_iald (p := 28) hK rfl hc1 b2 rfl ?_
        refine R_iadd (p := 29) rfl rfl ?_
        refine R_istore_n (p := 30) rfl rfl rfl ?_
        refine R_iinc (p := 33) rfl (jg_ne l3 rfl) rfl ki_1 rfl ?_
        refine R_goto rfl ?_
        obtain rfl := Option.some.inj h
        exact hq _ (jg_ne (jg_ne l0 rfl) rfl) (jg_ne (jg_ne l1 rfl) rfl) (jg_ne jg_self rfl) jg_self
theorem LX0_together_16_4 {xs : List Int32} {d : Nat} {r : jR} {K : Mem → List jE} (hK : Ctx shC K) (hd : 1 ≤ d) {k : Nat} {c1 : Nat} (hk : k < 3) (hc1 : shC c1 = some (.inr (.inl 16)))  {m : Mem} (n : Nat) (s : Int32 × Int32) {t : Int32} (h : lp (lX0_together_16_4 k c1 m) n s = some t) (hq : (qI r (K m)) t) : gX0_together_16_4 xs d r K k c1 m s := lp_ind (G := gX0_together_16_4 xs d r K k c1 m) (Qe := (qI r (K m))) (fun s t h hq => BX0_together_16_4 hK hd hk hc1 s h hq) n s t h hq
theorem ufX0_together_16 {xs : List Int32} {d : Nat} {r : jR} {K : Mem → List jE} (hK : Ctx shC K) (hd : 1 ≤ d) {k : Nat} {c1 : Nat} (hk : k < 3) (hc1 : shC c1 = some (.inr (.inl 16))) {m : Mem} {L : List (Nat × Value)} (l0 : jget L 0 = some (.ref (cw k 2))) (l1 : jget L 1 = some (.ref c1)) {t : Int32} (h : fX0_together_16 k c1 m = some t) (hq : (qI r (K m)) t) : RunD (jcs xs) d 4 (some .int) jt_X0_together (0, L, [], (K m)) r := by
  unfold fX0_together_16 at h
  refine R_iconst (p := 1) rfl ki_0 rfl ?_
  refine R_istore_n (p := 2) rfl rfl rfl ?_
  refine R_iconst (p := 3) rfl ki_0 rfl ?_
  refine R_istore_n (p := 4) rfl rfl rfl ?_
  exact LX0_together_16_4 hK hd hk hc1 _ _ h hq _ (jg_ne (jg_ne l0 rfl) rfl) (jg_ne (jg_ne l1 rfl) rfl) (jg_ne jg_self rfl) jg_self
theorem tfX0_together_16 {xs : List Int32} {d : Nat} {K : Mem → List jE} (hK : Ctx shC K) (hd : 2 ≤ d) {k : Nat} {c1 : Nat} (hk : k < 3) (hc1 : shC c1 = some (.inr (.inl 16))) {m : Mem} {t : Int32} (h : fX0_together_16 k c1 m = some t) : CallD (jcs xs) d 6 [.ref (cw k 2), .ref c1] (K m) (some (.int t), (K m)) := by
  obtain ⟨d, rfl⟩ : ∃ z, d = z + 1 := ⟨d - 1, by omega⟩
  refine CallD_of jmt_X0_together rfl ⟨rfl, Nat.le_of_ble_eq_true rfl⟩ ?_
  exact ufX0_together_16 hK (Nat.le_of_succ_le_succ hd) hk hc1 rfl rfl h rfl
noncomputable def fX8_all (x1 : Int32) (m : Mem) : Option (Int32 × Mem) := (if x1 = (0 : Int32) then (fX0_together_16 0 (cw 0 4) m).bind fun q1 => some (q1, m) else (if x1 = (1 : Int32) then (fX0_together_16 0 (cw 0 5) m).bind fun q3 => some (q3, m) else (if x1 = (2 : Int32) then some ((m (cw 0 1) 11), m) else (if x1 = (3 : Int32) then some ((m (cw 0 2) 6), m) else (if x1 = (4 : Int32) then some ((m (cw 0 2) 7), m) else (if x1 = (5 : Int32) then some ((m (cw 0 2) 8), m) else (fX8_no (1 : Int32) m).bind fun q9 => some (q9.1, q9.2)))))))
theorem ufX8_all {xs : List Int32} {d : Nat} {r : jR} {K : Mem → List jE} (hK : Ctx shC K) (hd : 2 ≤ d) {x1 : Int32} {m : Mem} {L : List (Nat × Value)} (l0 : jget L 0 = some (.ref 0)) (l1 : jget L 1 = some (.int x1)) {t : (Int32 × Mem)} (h : fX8_all x1 m = some t) (hq : (qIM r K) t) : RunD (jcs xs) d 2 (some .int) jt_X8_all (0, L, [], (K m)) r := by
  unfold fX8_all at h
  refine R_iload_n (p := 1) rfl l1 rfl ?_
  by_cases n2 : x1 = (0 : Int32)
  · replace h := ite_t h n2
    refine R_tsw (p := 40) rfl rfl (by rw [n2]; decide +kernel) ?_
    refine R_aload_n (p := 41) rfl l0 rfl ?_
    refine R_getR (p := 44) (q := (cw 0 1)) hK rfl rfl rfl rfl ?_
    refine R_getR (p := 47) (q := (cw 0 2)) hK rfl (s_w1 (by decide)) rfl rfl ?_
    refine R_aload_n (p := 48) rfl l0 rfl ?_
    refine R_getR (p := 51) (q := (cw 0 1)) hK rfl rfl rfl rfl ?_
    refine R_getR (p := 54) (q := (cw 0 2)) hK rfl (s_w1 (by decide)) rfl rfl ?_
    refine R_getR (p := 57) (q := (cw 0 4)) hK rfl (s_w2 (by decide)) rfl rfl ?_
    obtain ⟨q1, eq1, h⟩ := bind_some h
    refine R_cV2v (p := 60) hK rfl (s_w2 (by decide)) (tfX0_together_16 hK (Nat.le_trans (by decide) hd) (by decide) (s_w4 (by decide)) eq1) rfl rfl ?_
    obtain rfl := Option.some.inj h
    exact R_ireturn rfl rfl hq
  replace h := ite_f h n2
  by_cases n4 : x1 = (1 : Int32)
  · replace h := ite_t h n4
    refine R_tsw (p := 61) rfl rfl (by rw [n4]; decide +kernel) ?_
    refine R_aload_n (p := 62) rfl l0 rfl ?_
    refine R_getR (p := 65) (q := (cw 0 1)) hK rfl rfl rfl rfl ?_
    refine R_getR (p := 68) (q := (cw 0 2)) hK rfl (s_w1 (by decide)) rfl rfl ?_
    refine R_aload_n (p := 69) rfl l0 rfl ?_
    refine R_getR (p := 72) (q := (cw 0 1)) hK rfl rfl rfl rfl ?_
    refine R_getR (p := 75) (q := (cw 0 2)) hK rfl (s_w1 (by decide)) rfl rfl ?_
    refine R_getR (p := 78) (q := (cw 0 5)) hK rfl (s_w2 (by decide)) rfl rfl ?_
    obtain ⟨q3, eq3, h⟩ := bind_some h
    refine R_cV2v (p := 81) hK rfl (s_w2 (by decide)) (tfX0_together_16 hK (Nat.le_trans (by decide) hd) (by decide) (s_w5 (by decide)) eq3) rfl rfl ?_
    obtain rfl := Option.some.inj h
    exact R_ireturn rfl rfl hq
  replace h := ite_f h n4
  by_cases n5 : x1 = (2 : Int32)
  · replace h := ite_t h n5
    refine R_tsw (p := 82) rfl rfl (by rw [n5]; decide +kernel) ?_
    refine R_aload_n (p := 83) rfl l0 rfl ?_
    refine R_getR (p := 86) (q := (cw 0 1)) hK rfl rfl rfl rfl ?_
    refine R_getI (p := 89) hK rfl (s_w1 (by decide)) rfl rfl ?_
    obtain rfl := Option.some.inj h
    exact R_ireturn rfl rfl hq
  replace h := ite_f h n5
  by_cases n6 : x1 = (3 : Int32)
  · replace h := ite_t h n6
    refine R_tsw (p := 90) rfl rfl (by rw [n6]; decide +kernel) ?_
    refine R_aload_n (p := 91) rfl l0 rfl ?_
    refine R_getR (p := 94) (q := (cw 0 1)) hK rfl rfl rfl rfl ?_
    refine R_getR (p := 97) (q := (cw 0 2)) hK rfl (s_w1 (by decide)) rfl rfl ?_
    refine R_getI (p := 100) hK rfl (s_w2 (by decide)) rfl rfl ?_
    obtain rfl := Option.some.inj h
    exact R_ireturn rfl rfl hq
  replace h := ite_f h n6
  by_cases n7 : x1 = (4 : Int32)
  · replace h := ite_t h n7
    refine R_tsw (p := 101) rfl rfl (by rw [n7]; decide +kernel) ?_
    refine R_aload_n (p := 102) rfl l0 rfl ?_
    refine R_getR (p := 105) (q := (cw 0 1)) hK rfl rfl rfl rfl ?_
    refine R_getR (p := 108) (q := (cw 0 2)) hK rfl (s_w1 (by decide)) rfl rfl ?_
    refine R_getI (p := 111) hK rfl (s_w2 (by decide)) rfl rfl ?_
    obtain rfl := Option.some.inj h
    exact R_ireturn rfl rfl hq
  replace h := ite_f h n7
  by_cases n8 : x1 = (5 : Int32)
  · replace h := ite_t h n8
    refine R_tsw (p := 112) rfl rfl (by rw [n8]; decide +kernel) ?_
    refine R_aload_n (p := 113) rfl l0 rfl ?_
    refine R_getR (p := 116) (q := (cw 0 1)) hK rfl rfl rfl rfl ?_
    refine R_getR (p := 119) (q := (cw 0 2)) hK rfl (s_w1 (by decide)) rfl rfl ?_
    refine R_getI (p := 122) hK rfl (s_w2 (by decide)) rfl rfl ?_
    obtain rfl := Option.some.inj h
    exact R_ireturn rfl rfl hq
  replace h := ite_f h n8
  refine R_tsw (p := 123) rfl rfl (tsw_d [(0 : Int32), (1 : Int32), (2 : Int32), (3 : Int32), (4 : Int32), (5 : Int32)] (List.forall_mem_cons.mpr ⟨n2, List.forall_mem_cons.mpr ⟨n4, List.forall_mem_cons.mpr ⟨n5, List.forall_mem_cons.mpr ⟨n6, List.forall_mem_cons.mpr ⟨n7, List.forall_mem_cons.mpr ⟨n8, fun _ h9 => absurd h9 List.not_mem_nil⟩⟩⟩⟩⟩⟩) (by decide +kernel) rfl) ?_
  refine R_aload_n (p := 124) rfl l0 rfl ?_
  refine R_iconst (p := 125) rfl ki_1 rfl ?_
  obtain ⟨q9, eq9, h⟩ := bind_some h
  refine R_cV2v (p := 128) hK rfl rfl (tfX8_no hK (Nat.le_trans (by decide) hd)  eq9) rfl rfl ?_
  obtain rfl := Option.some.inj h
  exact R_ireturn rfl rfl hq
theorem tfX8_all {xs : List Int32} {d : Nat} {K : Mem → List jE} (hK : Ctx shC K) (hd : 3 ≤ d) {x1 : Int32} {m : Mem} {t : (Int32 × Mem)} (h : fX8_all x1 m = some t) : CallD (jcs xs) d 125 [.ref 0, .int x1] (K m) (some (.int t.1), K t.2) := by
  obtain ⟨d, rfl⟩ : ∃ z, d = z + 1 := ⟨d - 1, by omega⟩
  refine CallD_of jmt_X8_all rfl ⟨rfl, Nat.le_of_ble_eq_true rfl⟩ ?_
  exact ufX8_all hK (Nat.le_of_succ_le_succ hd) rfl rfl h rfl
noncomputable def lX9_all_20 (x1 : Int32) (m : Mem) (s : Int32 × Int32) : Option ((Int32 × Int32) ⊕ (Int32 × Mem)) := (if (16 : Int32) ≤ s.2 then (if (2 : Int32) ≤ x1 then (if inb (((7 : Int32) + x1) - (2 : Int32)) 1082 then some (.inr ((m 138 (((7 : Int32) + x1) - (2 : Int32)).toNatClampNeg), m)) else none) else some (.inr (s.1, m))) else (if (2 : Int32) ≤ x1 then some (.inl ((s.1 + (0 : Int32)), (s.2 + (1 : Int32)))) else (fX9_is s.2 m).bind fun q4 => (if q4 = 0 then some (.inl ((s.1 + (0 : Int32)), (s.2 + (1 : Int32)))) else (fX9_of s.2 ((2 : Int32) + x1) m).bind fun q5 => some (.inl ((s.1 + q5), (s.2 + (1 : Int32)))))))
noncomputable def gX9_all_20 (xs : List Int32) (d : Nat) (r : jR) (K : Mem → List jE) (x1 : Int32) (m : Mem) (s : Int32 × Int32) : Prop := ∀ L, jget L 0 = some (.ref 137) → jget L 1 = some (.int x1) → jget L 2 = some (.int s.1) → jget L 3 = some (.int s.2) → RunD (jcs xs) d 4 (some .int) jt_X9_all (20, L, [], (K m)) r
noncomputable def fX9_all (x1 : Int32) (m : Mem) : Option (Int32 × Mem) := (if (fX9_within x1 (0 : Int32) (5 : Int32)) = 0 then (fX9_finding (-1000001 : Int32) m).bind fun q2 => some (q2.1, q2.2) else lp (lX9_all_20 x1 m) fu ((0 : Int32), (0 : Int32)))
theorem BX9_all_20 {xs : List Int32} {d : Nat} {r : jR} {K : Mem → List jE} (hK : Ctx shR K) (hd : 2 ≤ d)  {x1 : Int32} {m : Mem} (s : Int32 × Int32) {t : (Int32 × Int32) ⊕ (Int32 × Mem)} (h : lX9_all_20 x1 m s = some t) (hq : sQ (gX9_all_20 xs d r K x1 m) (qIM r K) t) : gX9_all_20 xs d r K x1 m s := by
  intro L l0 l1 l2 l3
  unfold lX9_all_20 at h
  refine R_iload_n (p := 21) rfl l3 rfl ?_
  refine R_bipush (p := 23) rfl kb_16 rfl ?_
  by_cases hc : (16 : Int32) ≤ s.2
  · replace h := ite_t h hc
    refine R_icge_t rfl hc ?_
    refine R_iload_n (p := 61) rfl l1 rfl ?_
    refine R_iconst (p := 62) rfl ki_2 rfl ?_
    by_cases hc : (2 : Int32) ≤ x1
    · replace h := ite_t h hc
      refine R_icge_t rfl hc ?_
      refine R_aload_n (p := 70) rfl l0 rfl ?_
      refine R_getR (p := 73) (q := 138) hK rfl rfl rfl rfl ?_
      refine R_bipush (p := 75) rfl kb_7 rfl ?_
      refine R_iload_n (p := 76) rfl l1 rfl ?_
      refine R_iadd (p := 77) rfl rfl ?_
      refine R_iconst (p := 78) rfl ki_2 rfl ?_
      refine R_isub (p := 79) rfl rfl ?_
      obtain ⟨b3, h⟩ := gd h
      refine R_iald (p := 80) hK rfl rfl b3 rfl ?_
      obtain rfl := Option.some.inj h
      exact R_ireturn rfl rfl hq
    · replace h := ite_f h hc
      refine R_icge_f (p := 65) rfl hc rfl ?_
      refine R_iload_n (p := 66) rfl l2 rfl ?_
      refine R_goto rfl ?_
      obtain rfl := Option.some.inj h
      exact R_ireturn rfl rfl hq
  · replace h := ite_f h hc
    refine R_icge_f (p := 26) rfl hc rfl ?_
    refine R_iload_n (p := 27) rfl l2 rfl ?_
    refine R_iload_n (p := 28) rfl l1 rfl ?_
    refine R_iconst (p := 29) rfl ki_2 rfl ?_
    by_cases hc : (2 : Int32) ≤ x1
    · replace h := ite_t h hc
      refine R_icge_t rfl hc ?_
      refine R_iconst (p := 52) rfl ki_0 rfl ?_
      refine R_iadd (p := 53) rfl rfl ?_
      refine R_istore_n (p := 54) rfl rfl rfl ?_
      refine R_iinc (p := 57) rfl (jg_ne l3 rfl) rfl ki_1 rfl ?_
      refine R_goto rfl ?_
      obtain rfl := Option.some.inj h
      exact hq _ (jg_ne (jg_ne l0 rfl) rfl) (jg_ne (jg_ne l1 rfl) rfl) (jg_ne jg_self rfl) jg_self
    · replace h := ite_f h hc
      refine R_icge_f (p := 32) rfl hc rfl ?_
      refine R_aload_n (p := 33) rfl l0 rfl ?_
      refine R_iload_n (p := 34) rfl l3 rfl ?_
      obtain ⟨q4, eq4, h⟩ := bind_some h
      refine R_cV2v (p := 37) hK rfl rfl (tfX9_is hK (Nat.le_trans (by decide) hd)  eq4) rfl rfl ?_
      by_cases hc : q4 = 0
      · replace h := ite_t h hc
        refine R_ifeq_t rfl hc ?_
        refine R_iconst (p := 52) rfl ki_0 rfl ?_
        refine R_iadd (p := 53) rfl rfl ?_
        refine R_istore_n (p := 54) rfl rfl rfl ?_
        refine R_iinc (p := 57) rfl (jg_ne l3 rfl) rfl ki_1 rfl ?_
        refine R_goto rfl ?_
        obtain rfl := Option.some.inj h
        exact hq _ (jg_ne (jg_ne l0 rfl) rfl) (jg_ne (jg_ne l1 rfl) rfl) (jg_ne jg_self rfl) jg_self
      · replace h := ite_f h hc
        refine R_ifeq_f (p := 40) rfl hc rfl ?_
        refine R_aload_n (p := 41) rfl l0 rfl ?_
        refine R_iload_n (p := 42) rfl l3 rfl ?_
        refine R_iconst (p := 43) rfl ki_2 rfl ?_
        refine R_iload_n (p := 44) rfl l1 rfl ?_
        refine R_iadd (p := 45) rfl rfl ?_
        obtain ⟨q5, eq5, h⟩ := bind_some h
        refine R_cV3v (p := 48) hK rfl rfl (tfX9_of hK (Nat.le_trans (by decide) hd)  eq5) rfl rfl ?_
        refine R_goto rfl ?_
        refine R_iadd (p := 53) rfl rfl ?_
        refine R_istore_n (p := 54) rfl rfl rfl ?_
        refine R_iinc (p := 57) rfl (jg_ne l3 rfl) rfl ki_1 rfl ?_
        refine R_goto rfl ?_
        obtain rfl := Option.some.inj h
        exact hq _ (jg_ne (jg_ne l0 rfl) rfl) (jg_ne (jg_ne l1 rfl) rfl) (jg_ne jg_self rfl) jg_self
theorem LX9_all_20 {xs : List Int32} {d : Nat} {r : jR} {K : Mem → List jE} (hK : Ctx shR K) (hd : 2 ≤ d)  {x1 : Int32} {m : Mem} (n : Nat) (s : Int32 × Int32) {t : (Int32 × Mem)} (h : lp (lX9_all_20 x1 m) n s = some t) (hq : (qIM r K) t) : gX9_all_20 xs d r K x1 m s := lp_ind (G := gX9_all_20 xs d r K x1 m) (Qe := (qIM r K)) (fun s t h hq => BX9_all_20 hK hd s h hq) n s t h hq
theorem ufX9_all {xs : List Int32} {d : Nat} {r : jR} {K : Mem → List jE} (hK : Ctx shR K) (hd : 2 ≤ d) {x1 : Int32} {m : Mem} {L : List (Nat × Value)} (l0 : jget L 0 = some (.ref 137)) (l1 : jget L 1 = some (.int x1)) {t : (Int32 × Mem)} (h : fX9_all x1 m = some t) (hq : (qIM r K) t) : RunD (jcs xs) d 4 (some .int) jt_X9_all (0, L, [], (K m)) r := by
  unfold fX9_all at h
  refine R_iload_n (p := 1) rfl l1 rfl ?_
  refine R_iconst (p := 2) rfl ki_0 rfl ?_
  refine R_iconst (p := 3) rfl ki_5 rfl ?_
  refine R_cS3v (p := 6) rfl (tfX9_within (Nat.le_trans (by decide) hd) ) rfl rfl ?_
  by_cases hc : (fX9_within x1 (0 : Int32) (5 : Int32)) = 0
  · replace h := ite_t h hc
    refine R_ifne_f (p := 9) rfl (fun z => z hc) rfl ?_
    refine R_aload_n (p := 10) rfl l0 rfl ?_
    refine R_ldc (p := 12) rfl kl_m1000001 rfl ?_
    obtain ⟨q2, eq2, h⟩ := bind_some h
    refine R_cV2v (p := 15) hK rfl rfl (tfX9_finding hK (Nat.le_trans (by decide) hd)  eq2) rfl rfl ?_
    obtain rfl := Option.some.inj h
    exact R_ireturn rfl rfl hq
  · replace h := ite_f h hc
    refine R_ifne_t rfl hc ?_
    refine R_iconst (p := 17) rfl ki_0 rfl ?_
    refine R_istore_n (p := 18) rfl rfl rfl ?_
    refine R_iconst (p := 19) rfl ki_0 rfl ?_
    refine R_istore_n (p := 20) rfl rfl rfl ?_
    exact LX9_all_20 hK hd _ _ h hq _ (jg_ne (jg_ne l0 rfl) rfl) (jg_ne (jg_ne l1 rfl) rfl) (jg_ne jg_self rfl) jg_self
theorem tfX9_all {xs : List Int32} {d : Nat} {K : Mem → List jE} (hK : Ctx shR K) (hd : 3 ≤ d) {x1 : Int32} {m : Mem} {t : (Int32 × Mem)} (h : fX9_all x1 m = some t) : CallD (jcs xs) d 224 [.ref 137, .int x1] (K m) (some (.int t.1), K t.2) := by
  obtain ⟨d, rfl⟩ : ∃ z, d = z + 1 := ⟨d - 1, by omega⟩
  refine CallD_of jmt_X9_all rfl ⟨rfl, Nat.le_of_ble_eq_true rfl⟩ ?_
  exact ufX9_all hK (Nat.le_of_succ_le_succ hd) rfl rfl h rfl
noncomputable def fX8_pace (x1 : Int32) (m : Mem) : Option (Int32 × Mem) := (if (fX0_has 0 x1 m) = 0 then (fX8_no (1 : Int32) m).bind fun q2 => some (q2.1, q2.2) else (if inb x1 16 then some (((m (cw 0 1) 6) * ((m (cw 0 7) x1.toNatClampNeg) - (6 : Int32))), m) else none))
theorem ufX8_pace {xs : List Int32} {d : Nat} {r : jR} {K : Mem → List jE} (hK : Ctx shC K) (hd : 1 ≤ d) {x1 : Int32} {m : Mem} {L : List (Nat × Value)} (l0 : jget L 0 = some (.ref 0)) (l1 : jget L 1 = some (.int x1)) {t : (Int32 × Mem)} (h : fX8_pace x1 m = some t) (hq : (qIM r K) t) : RunD (jcs xs) d 2 (some .int) jt_X8_pace (0, L, [], (K m)) r := by
  unfold fX8_pace at h
  refine R_aload_n (p := 1) rfl l0 rfl ?_
  refine R_getR (p := 4) (q := (cw 0 1)) hK rfl rfl rfl rfl ?_
  refine R_getR (p := 7) (q := (cw 0 2)) hK rfl (s_w1 (by decide)) rfl rfl ?_
  refine R_iload_n (p := 8) rfl l1 rfl ?_
  refine R_cV2v (p := 11) hK rfl (s_w2 (by decide)) (tfX0_has hK (Nat.le_trans (by decide) hd) (by decide)) rfl rfl ?_
  by_cases hc : (fX0_has 0 x1 m) = 0
  · replace h := ite_t h hc
    refine R_ifne_f (p := 14) rfl (fun z => z hc) rfl ?_
    refine R_aload_n (p := 15) rfl l0 rfl ?_
    refine R_iconst (p := 16) rfl ki_1 rfl ?_
    obtain ⟨q2, eq2, h⟩ := bind_some h
    refine R_cV2v (p := 19) hK rfl rfl (tfX8_no hK (Nat.le_trans (by decide) hd)  eq2) rfl rfl ?_
    obtain rfl := Option.some.inj h
    exact R_ireturn rfl rfl hq
  · replace h := ite_f h hc
    refine R_ifne_t rfl hc ?_
    refine R_aload_n (p := 21) rfl l0 rfl ?_
    refine R_getR (p := 24) (q := (cw 0 1)) hK rfl rfl rfl rfl ?_
    refine R_getI (p := 27) hK rfl (s_w1 (by decide)) rfl rfl ?_
    refine R_aload_n (p := 28) rfl l0 rfl ?_
    refine R_getR (p := 31) (q := (cw 0 1)) hK rfl rfl rfl rfl ?_
    refine R_getR (p := 34) (q := (cw 0 2)) hK rfl (s_w1 (by decide)) rfl rfl ?_
    refine R_getR (p := 37) (q := (cw 0 7)) hK rfl (s_w2 (by decide)) rfl rfl ?_
    refine R_iload_n (p := 38) rfl l1 rfl ?_
    obtain ⟨b3, h⟩ := gd h
    refine R_iald (p := 39) hK rfl (s_w7 (by decide)) b3 rfl ?_
    refine R_bipush (p := 41) rfl kb_6 rfl ?_
    refine R_isub (p := 42) rfl rfl ?_
    refine R_imul (p := 43) rfl rfl ?_
    obtain rfl := Option.some.inj h
    exact R_ireturn rfl rfl hq
theorem tfX8_pace {xs : List Int32} {d : Nat} {K : Mem → List jE} (hK : Ctx shC K) (hd : 2 ≤ d) {x1 : Int32} {m : Mem} {t : (Int32 × Mem)} (h : fX8_pace x1 m = some t) : CallD (jcs xs) d 126 [.ref 0, .int x1] (K m) (some (.int t.1), K t.2) := by
  obtain ⟨d, rfl⟩ : ∃ z, d = z + 1 := ⟨d - 1, by omega⟩
  refine CallD_of jmt_X8_pace rfl ⟨rfl, Nat.le_of_ble_eq_true rfl⟩ ?_
  exact ufX8_pace hK (Nat.le_of_succ_le_succ hd) rfl rfl h rfl
noncomputable def fX9_pace (x1 : Int32) (m : Mem) : Option (Int32 × Mem) := (fX9_is x1 m).bind fun q1 => (if q1 = 0 then (fX9_finding (-1000001 : Int32) m).bind fun q2 => some (q2.1, q2.2) else (fX9_sidesOf x1 m).bind fun q3 => some (((m 138 4) * (q3 - (6 : Int32))), m))
theorem ufX9_pace {xs : List Int32} {d : Nat} {r : jR} {K : Mem → List jE} (hK : Ctx shR K) (hd : 2 ≤ d) {x1 : Int32} {m : Mem} {L : List (Nat × Value)} (l0 : jget L 0 = some (.ref 137)) (l1 : jget L 1 = some (.int x1)) {t : (Int32 × Mem)} (h : fX9_pace x1 m = some t) (hq : (qIM r K) t) : RunD (jcs xs) d 2 (some .int) jt_X9_pace (0, L, [], (K m)) r := by
  unfold fX9_pace at h
  refine R_aload_n (p := 1) rfl l0 rfl ?_
  refine R_iload_n (p := 2) rfl l1 rfl ?_
  obtain ⟨q1, eq1, h⟩ := bind_some h
  refine R_cV2v (p := 5) hK rfl rfl (tfX9_is hK (Nat.le_trans (by decide) hd)  eq1) rfl rfl ?_
  by_cases hc : q1 = 0
  · replace h := ite_t h hc
    refine R_ifeq_t rfl hc ?_
    refine R_aload_n (p := 27) rfl l0 rfl ?_
    refine R_ldc (p := 29) rfl kl_m1000001 rfl ?_
    obtain ⟨q2, eq2, h⟩ := bind_some h
    refine R_cV2v (p := 32) hK rfl rfl (tfX9_finding hK (Nat.le_trans (by decide) hd)  eq2) rfl rfl ?_
    obtain rfl := Option.some.inj h
    exact R_ireturn rfl rfl hq
  · replace h := ite_f h hc
    refine R_ifeq_f (p := 8) rfl hc rfl ?_
    refine R_aload_n (p := 9) rfl l0 rfl ?_
    refine R_getR (p := 12) (q := 138) hK rfl rfl rfl rfl ?_
    refine R_iconst (p := 13) rfl ki_4 rfl ?_
    refine R_ialk (p := 14) hK rfl rfl (by decide) kn_4 rfl ?_
    refine R_aload_n (p := 15) rfl l0 rfl ?_
    refine R_iload_n (p := 16) rfl l1 rfl ?_
    obtain ⟨q3, eq3, h⟩ := bind_some h
    refine R_cV2v (p := 19) hK rfl rfl (tfX9_sidesOf hK (Nat.le_trans (by decide) hd)  eq3) rfl rfl ?_
    refine R_bipush (p := 21) rfl kb_6 rfl ?_
    refine R_isub (p := 22) rfl rfl ?_
    refine R_imul (p := 23) rfl rfl ?_
    refine R_goto rfl ?_
    obtain rfl := Option.some.inj h
    exact R_ireturn rfl rfl hq
theorem tfX9_pace {xs : List Int32} {d : Nat} {K : Mem → List jE} (hK : Ctx shR K) (hd : 3 ≤ d) {x1 : Int32} {m : Mem} {t : (Int32 × Mem)} (h : fX9_pace x1 m = some t) : CallD (jcs xs) d 225 [.ref 137, .int x1] (K m) (some (.int t.1), K t.2) := by
  obtain ⟨d, rfl⟩ : ∃ z, d = z + 1 := ⟨d - 1, by omega⟩
  refine CallD_of jmt_X9_pace rfl ⟨rfl, Nat.le_of_ble_eq_true rfl⟩ ?_
  exact ufX9_pace hK (Nat.le_of_succ_le_succ hd) rfl rfl h rfl
noncomputable def lX8_sides_20 (x1 : Int32) (m : Mem) (s : Int32 × Int32) : Option ((Int32 × Int32) ⊕ (Int32 × Mem)) := (if (16 : Int32) ≤ s.2 then some (.inr (s.1, m)) else (if (fX0_has 0 s.2 m) = 0 then some (.inl (s.1, (s.2 + (1 : Int32)))) else (if inb s.2 16 then (if (m (cw 0 7) s.2.toNatClampNeg) = x1 then some (.inl ((s.1 + (1 : Int32)), (s.2 + (1 : Int32)))) else some (.inl (s.1, (s.2 + (1 : Int32))))) else none)))
noncomputable def gX8_sides_20 (xs : List Int32) (d : Nat) (r : jR) (K : Mem → List jE) (x1 : Int32) (m : Mem) (s : Int32 × Int32) : Prop := ∀ L, jget L 0 = some (.ref 0) → jget L 1 = some (.int x1) → jget L 2 = some (.int s.1) → jget L 3 = some (.int s.2) → RunD (jcs xs) d 4 (some .int) jt_X8_sides (20, L, [], (K m)) r
noncomputable def fX8_sides (x1 : Int32) (m : Mem) : Option (Int32 × Mem) := (if (fX8_within x1 (0 : Int32) (60 : Int32)) = 0 then (fX8_no (1 : Int32) m).bind fun q2 => some (q2.1, q2.2) else lp (lX8_sides_20 x1 m) fu ((0 : Int32), (0 : Int32)))
theorem BX8_sides_20 {xs : List Int32} {d : Nat} {r : jR} {K : Mem → List jE} (hK : Ctx shC K) (hd : 1 ≤ d)  {x1 : Int32} {m : Mem} (s : Int32 × Int32) {t : (Int32 × Int32) ⊕ (Int32 × Mem)} (h : lX8_sides_20 x1 m s = some t) (hq : sQ (gX8_sides_20 xs d r K x1 m) (qIM r K) t) : gX8_sides_20 xs d r K x1 m s := by
  intro L l0 l1 l2 l3
  unfold lX8_sides_20 at h
  refine R_iload_n (p := 21) rfl l3 rfl ?_
  refine R_bipush (p := 23) rfl kb_16 rfl ?_
  by_cases hc : (16 : Int32) ≤ s.2
  · replace h := ite_t h hc
    refine R_icge_t rfl hc ?_
    refine R_iload_n (p := 66) rfl l2 rfl ?_
    obtain rfl := Option.some.inj h
    exact R_ireturn rfl rfl hq
  · replace h := ite_f h hc
    refine R_icge_f (p := 26) rfl hc rfl ?_
    refine R_aload_n (p := 27) rfl l0 rfl ?_
    refine R_getR (p := 30) (q := (cw 0 1)) hK rfl rfl rfl rfl ?_
    refine R_getR (p := 33) (q := (cw 0 2)) hK rfl (s_w1 (by decide)) rfl rfl ?_
    refine R_iload_n (p := 34) rfl l3 rfl ?_
    refine R_cV2v (p := 37) hK rfl (s_w2 (by decide)) (tfX0_has hK (Nat.le_trans (by decide) hd) (by decide)) rfl rfl ?_
    by_cases hc : (fX0_has 0 s.2 m) = 0
    · replace h := ite_t h hc
      refine R_ifeq_t rfl hc ?_
      refine R_iinc (p := 62) rfl l3 rfl ki_1 rfl ?_
      refine R_goto rfl ?_
      obtain rfl := Option.some.inj h
      exact hq _ (jg_ne l0 rfl) (jg_ne l1 rfl) (jg_ne l2 rfl) jg_self
    · replace h := ite_f h hc
      refine R_ifeq_f (p := 40) rfl hc rfl ?_
      refine R_aload_n (p := 41) rfl l0 rfl ?_
      refine R_getR (p := 44) (q := (cw 0 1)) hK rfl rfl rfl rfl ?_
      refine R_getR (p := 47) (q := (cw 0 2)) hK rfl (s_w1 (by decide)) rfl rfl ?_
      refine R_getR (p := 50) (q := (cw 0 7)) hK rfl (s_w2 (by decide)) rfl rfl ?_
      refine R_iload_n (p := 51) rfl l3 rfl ?_
      obtain ⟨b4, h⟩ := gd h
      refine R_iald (p := 52) hK rfl (s_w7 (by decide)) b4 rfl ?_
      refine R_iload_n (p := 53) rfl l1 rfl ?_
      by_cases hc : (m (cw 0 7) s.2.toNatClampNeg) = x1
      · replace h := ite_t h hc
        refine R_icne_f (p := 56) rfl (fun z => z hc) rfl ?_
        refine R_iinc (p := 59) rfl l2 rfl ki_1 rfl ?_
        refine R_iinc (p := 62) rfl (jg_ne l3 rfl) rfl ki_1 rfl ?_
        refine R_goto rfl ?_
        obtain rfl := Option.some.inj h
        exact hq _ (jg_ne (jg_ne l0 rfl) rfl) (jg_ne (jg_ne l1 rfl) rfl) (jg_ne jg_self rfl) jg_self
      · replace h := ite_f h hc
        refine R_icne_t rfl hc ?_
        refine R_iinc (p := 62) rfl l3 rfl ki_1 rfl ?_
        refine R_goto rfl ?_
        obtain rfl := Option.some.inj h
        exact hq _ (jg_ne l0 rfl) (jg_ne l1 rfl) (jg_ne l2 rfl) jg_self
theorem LX8_sides_20 {xs : List Int32} {d : Nat} {r : jR} {K : Mem → List jE} (hK : Ctx shC K) (hd : 1 ≤ d)  {x1 : Int32} {m : Mem} (n : Nat) (s : Int32 × Int32) {t : (Int32 × Mem)} (h : lp (lX8_sides_20 x1 m) n s = some t) (hq : (qIM r K) t) : gX8_sides_20 xs d r K x1 m s := lp_ind (G := gX8_sides_20 xs d r K x1 m) (Qe := (qIM r K)) (fun s t h hq => BX8_sides_20 hK hd s h hq) n s t h hq
theorem ufX8_sides {xs : List Int32} {d : Nat} {r : jR} {K : Mem → List jE} (hK : Ctx shC K) (hd : 1 ≤ d) {x1 : Int32} {m : Mem} {L : List (Nat × Value)} (l0 : jget L 0 = some (.ref 0)) (l1 : jget L 1 = some (.int x1)) {t : (Int32 × Mem)} (h : fX8_sides x1 m = some t) (hq : (qIM r K) t) : RunD (jcs xs) d 4 (some .int) jt_X8_sides (0, L, [], (K m)) r := by
  unfold fX8_sides at h
  refine R_iload_n (p := 1) rfl l1 rfl ?_
  refine R_iconst (p := 2) rfl ki_0 rfl ?_
  refine R_bipush (p := 4) rfl kb_60 rfl ?_
  refine R_cS3v (p := 7) rfl (tfX8_within (Nat.le_trans (by decide) hd) ) rfl rfl ?_
  by_cases hc : (fX8_within x1 (0 : Int32) (60 : Int32)) = 0
  · replace h := ite_t h hc
    refine R_ifne_f (p := 10) rfl (fun z => z hc) rfl ?_
    refine R_aload_n (p := 11) rfl l0 rfl ?_
    refine R_iconst (p := 12) rfl ki_1 rfl ?_
    obtain ⟨q2, eq2, h⟩ := bind_some h
    refine R_cV2v (p := 15) hK rfl rfl (tfX8_no hK (Nat.le_trans (by decide) hd)  eq2) rfl rfl ?_
    obtain rfl := Option.some.inj h
    exact R_ireturn rfl rfl hq
  · replace h := ite_f h hc
    refine R_ifne_t rfl hc ?_
    refine R_iconst (p := 17) rfl ki_0 rfl ?_
    refine R_istore_n (p := 18) rfl rfl rfl ?_
    refine R_iconst (p := 19) rfl ki_0 rfl ?_
    refine R_istore_n (p := 20) rfl rfl rfl ?_
    exact LX8_sides_20 hK hd _ _ h hq _ (jg_ne (jg_ne l0 rfl) rfl) (jg_ne (jg_ne l1 rfl) rfl) (jg_ne jg_self rfl) jg_self
theorem tfX8_sides {xs : List Int32} {d : Nat} {K : Mem → List jE} (hK : Ctx shC K) (hd : 2 ≤ d) {x1 : Int32} {m : Mem} {t : (Int32 × Mem)} (h : fX8_sides x1 m = some t) : CallD (jcs xs) d 127 [.ref 0, .int x1] (K m) (some (.int t.1), K t.2) := by
  obtain ⟨d, rfl⟩ : ∃ z, d = z + 1 := ⟨d - 1, by omega⟩
  refine CallD_of jmt_X8_sides rfl ⟨rfl, Nat.le_of_ble_eq_true rfl⟩ ?_
  exact ufX8_sides hK (Nat.le_of_succ_le_succ hd) rfl rfl h rfl
noncomputable def lX9_sides_21 (x1 : Int32) (m : Mem) (s : Int32 × Int32) : Option ((Int32 × Int32) ⊕ (Int32 × Mem)) := (if (16 : Int32) ≤ s.2 then some (.inr (s.1, m)) else (fX9_is s.2 m).bind fun q3 => (if q3 = 0 then some (.inl ((s.1 + (0 : Int32)), (s.2 + (1 : Int32)))) else (fX9_sidesOf s.2 m).bind fun q4 => (if q4 = x1 then some (.inl ((s.1 + (1 : Int32)), (s.2 + (1 : Int32)))) else some (.inl ((s.1 + (0 : Int32)), (s.2 + (1 : Int32)))))))
noncomputable def gX9_sides_21 (xs : List Int32) (d : Nat) (r : jR) (K : Mem → List jE) (x1 : Int32) (m : Mem) (s : Int32 × Int32) : Prop := ∀ L, jget L 0 = some (.ref 137) → jget L 1 = some (.int x1) → jget L 2 = some (.int s.1) → jget L 3 = some (.int s.2) → RunD (jcs xs) d 4 (some .int) jt_X9_sides (21, L, [], (K m)) r
noncomputable def fX9_sides (x1 : Int32) (m : Mem) : Option (Int32 × Mem) := (if (fX9_within x1 (0 : Int32) (60 : Int32)) = 0 then (fX9_finding (-1000001 : Int32) m).bind fun q2 => some (q2.1, q2.2) else lp (lX9_sides_21 x1 m) fu ((0 : Int32), (0 : Int32)))
theorem BX9_sides_21 {xs : List Int32} {d : Nat} {r : jR} {K : Mem → List jE} (hK : Ctx shR K) (hd : 2 ≤ d)  {x1 : Int32} {m : Mem} (s : Int32 × Int32) {t : (Int32 × Int32) ⊕ (Int32 × Mem)} (h : lX9_sides_21 x1 m s = some t) (hq : sQ (gX9_sides_21 xs d r K x1 m) (qIM r K) t) : gX9_sides_21 xs d r K x1 m s := by
  intro L l0 l1 l2 l3
  unfold lX9_sides_21 at h
  refine R_iload_n (p := 22) rfl l3 rfl ?_
  refine R_bipush (p := 24) rfl kb_16 rfl ?_
  by_cases hc : (16 : Int32) ≤ s.2
  · replace h := ite_t h hc
    refine R_icge_t rfl hc ?_
    refine R_iload_n (p := 59) rfl l2 rfl ?_
    obtain rfl := Option.some.inj h
    exact R_ireturn rfl rfl hq
  · replace h := ite_f h hc
    refine R_icge_f (p := 27) rfl hc rfl ?_
    refine R_iload_n (p := 28) rfl l2 rfl ?_
    refine R_aload_n (p := 29) rfl l0 rfl ?_
    refine R_iload_n (p := 30) rfl l3 rfl ?_
    obtain ⟨q3, eq3, h⟩ := bind_some h
    refine R_cV2v (p := 33) hK rfl rfl (tfX9_is hK (Nat.le_trans (by decide) hd)  eq3) rfl rfl ?_
    by_cases hc : q3 = 0
    · replace h := ite_t h hc
      refine R_ifeq_t rfl hc ?_
      refine R_iconst (p := 50) rfl ki_0 rfl ?_
      refine R_iadd (p := 51) rfl rfl ?_
      refine R_istore_n (p := 52) rfl rfl rfl ?_
      refine R_iinc (p := 55) rfl (jg_ne l3 rfl) rfl ki_1 rfl ?_
      refine R_goto rfl ?_
      obtain rfl := Option.some.inj h
      exact hq _ (jg_ne (jg_ne l0 rfl) rfl) (jg_ne (jg_ne l1 rfl) rfl) (jg_ne jg_self rfl) jg_self
    · replace h := ite_f h hc
      refine R_ifeq_f (p := 36) rfl hc rfl ?_
      refine R_aload_n (p := 37) rfl l0 rfl ?_
      refine R_iload_n (p := 38) rfl l3 rfl ?_
      obtain ⟨q4, eq4, h⟩ := bind_some h
      refine R_cV2v (p := 41) hK rfl rfl (tfX9_sidesOf hK (Nat.le_trans (by decide) hd)  eq4) rfl rfl ?_
      refine R_iload_n (p := 42) rfl l1 rfl ?_
      by_cases hc : q4 = x1
      · replace h := ite_t h hc
        refine R_icne_f (p := 45) rfl (fun z => z hc) rfl ?_
        refine R_iconst (p := 46) rfl ki_1 rfl ?_
        refine R_goto rfl ?_
        refine R_iadd (p := 51) rfl rfl ?_
        refine R_istore_n (p := 52) rfl rfl rfl ?_
        refine R_iinc (p := 55) rfl (jg_ne l3 rfl) rfl ki_1 rfl ?_
        refine R_goto rfl ?_
        obtain rfl := Option.some.inj h
        exact hq _ (jg_ne (jg_ne l0 rfl) rfl) (jg_ne (jg_ne l1 rfl) rfl) (jg_ne jg_self rfl) jg_self
      · replace h := ite_f h hc
        refine R_icne_t rfl hc ?_
        refine R_iconst (p := 50) rfl ki_0 rfl ?_
        refine R_iadd (p := 51) rfl rfl ?_
        refine R_istore_n (p := 52) rfl rfl rfl ?_
        refine R_iinc (p := 55) rfl (jg_ne l3 rfl) rfl ki_1 rfl ?_
        refine R_goto rfl ?_
        obtain rfl := Option.some.inj h
        exact hq _ (jg_ne (jg_ne l0 rfl) rfl) (jg_ne (jg_ne l1 rfl) rfl) (jg_ne jg_self rfl) jg_self
theorem LX9_sides_21 {xs : List Int32} {d : Nat} {r : jR} {K : Mem → List jE} (hK : Ctx shR K) (hd : 2 ≤ d)  {x1 : Int32} {m : Mem} (n : Nat) (s : Int32 × Int32) {t : (Int32 × Mem)} (h : lp (lX9_sides_21 x1 m) n s = some t) (hq : (qIM r K) t) : gX9_sides_21 xs d r K x1 m s := lp_ind (G := gX9_sides_21 xs d r K x1 m) (Qe := (qIM r K)) (fun s t h hq => BX9_sides_21 hK hd s h hq) n s t h hq
theorem ufX9_sides {xs : List Int32} {d : Nat} {r : jR} {K : Mem → List jE} (hK : Ctx shR K) (hd : 2 ≤ d) {x1 : Int32} {m : Mem} {L : List (Nat × Value)} (l0 : jget L 0 = some (.ref 137)) (l1 : jget L 1 = some (.int x1)) {t : (Int32 × Mem)} (h : fX9_sides x1 m = some t) (hq : (qIM r K) t) : RunD (jcs xs) d 4 (some .int) jt_X9_sides (0, L, [], (K m)) r := by
  unfold fX9_sides at h
  refine R_iload_n (p := 1) rfl l1 rfl ?_
  refine R_iconst (p := 2) rfl ki_0 rfl ?_
  refine R_bipush (p := 4) rfl kb_60 rfl ?_
  refine R_cS3v (p := 7) rfl (tfX9_within (Nat.le_trans (by decide) hd) ) rfl rfl ?_
  by_cases hc : (fX9_within x1 (0 : Int32) (60 : Int32)) = 0
  · replace h := ite_t h hc
    refine R_ifne_f (p := 10) rfl (fun z => z hc) rfl ?_
    refine R_aload_n (p := 11) rfl l0 rfl ?_
    refine R_ldc (p := 13) rfl kl_m1000001 rfl ?_
    obtain ⟨q2, eq2, h⟩ := bind_some h
    refine R_cV2v (p := 16) hK rfl rfl (tfX9_finding hK (Nat.le_trans (by decide) hd)  eq2) rfl rfl ?_
    obtain rfl := Option.some.inj h
    exact R_ireturn rfl rfl hq
  · replace h := ite_f h hc
    refine R_ifne_t rfl hc ?_
    refine R_iconst (p := 18) rfl ki_0 rfl ?_
    refine R_istore_n (p := 19) rfl rfl rfl ?_
    refine R_iconst (p := 20) rfl ki_0 rfl ?_
    refine R_istore_n (p := 21) rfl rfl rfl ?_
    exact LX9_sides_21 hK hd _ _ h hq _ (jg_ne (jg_ne l0 rfl) rfl) (jg_ne (jg_ne l1 rfl) rfl) (jg_ne jg_self rfl) jg_self
theorem tfX9_sides {xs : List Int32} {d : Nat} {K : Mem → List jE} (hK : Ctx shR K) (hd : 3 ≤ d) {x1 : Int32} {m : Mem} {t : (Int32 × Mem)} (h : fX9_sides x1 m = some t) : CallD (jcs xs) d 226 [.ref 137, .int x1] (K m) (some (.int t.1), K t.2) := by
  obtain ⟨d, rfl⟩ : ∃ z, d = z + 1 := ⟨d - 1, by omega⟩
  refine CallD_of jmt_X9_sides rfl ⟨rfl, Nat.le_of_ble_eq_true rfl⟩ ?_
  exact ufX9_sides hK (Nat.le_of_succ_le_succ hd) rfl rfl h rfl
noncomputable def lX0_sidesBeside_11 (k : Nat) (x1 : Int32) (x3 : Int32) (m : Mem) (s : Int32 × Int32) : Option ((Int32 × Int32) ⊕ Int32) := (if x3 ≤ s.2 then some (.inr s.1) else (fX0_at k x1 s.2 m).bind fun q2 => (fX0_sidesOf k q2 m).bind fun q3 => some (.inl ((s.1 + q3), (s.2 + (1 : Int32)))))
noncomputable def gX0_sidesBeside_11 (xs : List Int32) (d : Nat) (r : jR) (K : Mem → List jE) (k : Nat) (x1 : Int32) (x3 : Int32) (m : Mem) (s : Int32 × Int32) : Prop := ∀ L, jget L 0 = some (.ref (cw k 2)) → jget L 1 = some (.int x1) → jget L 3 = some (.int x3) → jget L 2 = some (.int s.1) → jget L 4 = some (.int s.2) → RunD (jcs xs) d 5 (some .int) jt_X0_sidesBeside (11, L, [], (K m)) r
noncomputable def fX0_sidesBeside (k : Nat) (x1 : Int32) (m : Mem) : Option Int32 := (fX0_sidesOf k x1 m).bind fun q1 => lp (lX0_sidesBeside_11 k x1 q1 m) fu ((0 : Int32), (0 : Int32))
theorem BX0_sidesBeside_11 {xs : List Int32} {d : Nat} {r : jR} {K : Mem → List jE} (hK : Ctx shC K) (hd : 2 ≤ d) {k : Nat} (hk : k < 3)  {x1 : Int32} {x3 : Int32} {m : Mem} (s : Int32 × Int32) {t : (Int32 × Int32) ⊕ Int32} (h : lX0_sidesBeside_11 k x1 x3 m s = some t) (hq : sQ (gX0_sidesBeside_11 xs d r K k x1 x3 m) (qI r (K m)) t) : gX0_sidesBeside_11 xs d r K k x1 x3 m s := by
  intro L l0 l1 l3 l2 l4
  unfold lX0_sidesBeside_11 at h
  refine R_iload (p := 13) rfl l4 rfl ?_
  refine R_iload_n (p := 14) rfl l3 rfl ?_
  by_cases hc : x3 ≤ s.2
  · replace h := ite_t h hc
    refine R_icge_t rfl hc ?_
    refine R_iload_n (p := 38) rfl l2 rfl ?_
    obtain rfl := Option.some.inj h
    exact R_ireturn rfl rfl hq
  · replace h := ite_f h hc
    refine R_icge_f (p := 17) rfl hc rfl ?_
    refine R_iload_n (p := 18) rfl l2 rfl ?_
    refine R_aload_n (p := 19) rfl l0 rfl ?_
    refine R_aload_n (p := 20) rfl l0 rfl ?_
    refine R_iload_n (p := 21) rfl l1 rfl ?_
    refine R_iload (p := 23) rfl l4 rfl ?_
    obtain ⟨q2, eq2, h⟩ := bind_some h
    refine R_cV3v (p := 26) hK rfl (s_w2 hk) (tfX0_at hK (Nat.le_trans (by decide) hd) hk eq2) rfl rfl ?_
    obtain ⟨q3, eq3, h⟩ := bind_some h
    refine R_cV2v (p := 29) hK rfl (s_w2 hk) (tfX0_sidesOf hK (Nat.le_trans (by decide) hd) hk eq3) rfl rfl ?_
    refine R_iadd (p := 30) rfl rfl ?_
    refine R_istore_n (p := 31) rfl rfl rfl ?_
    refine R_iinc (p := 34) rfl (jg_ne l4 rfl) rfl ki_1 rfl ?_
    refine R_goto rfl ?_
    obtain rfl := Option.some.inj h
    exact hq _ (jg_ne (jg_ne l0 rfl) rfl) (jg_ne (jg_ne l1 rfl) rfl) (jg_ne (jg_ne l3 rfl) rfl) (jg_ne jg_self rfl) jg_self
theorem LX0_sidesBeside_11 {xs : List Int32} {d : Nat} {r : jR} {K : Mem → List jE} (hK : Ctx shC K) (hd : 2 ≤ d) {k : Nat} (hk : k < 3)  {x1 : Int32} {x3 : Int32} {m : Mem} (n : Nat) (s : Int32 × Int32) {t : Int32} (h : lp (lX0_sidesBeside_11 k x1 x3 m) n s = some t) (hq : (qI r (K m)) t) : gX0_sidesBeside_11 xs d r K k x1 x3 m s := lp_ind (G := gX0_sidesBeside_11 xs d r K k x1 x3 m) (Qe := (qI r (K m))) (fun s t h hq => BX0_sidesBeside_11 hK hd hk s h hq) n s t h hq
theorem ufX0_sidesBeside {xs : List Int32} {d : Nat} {r : jR} {K : Mem → List jE} (hK : Ctx shC K) (hd : 2 ≤ d) {k : Nat} (hk : k < 3) {x1 : Int32} {m : Mem} {L : List (Nat × Value)} (l0 : jget L 0 = some (.ref (cw k 2))) (l1 : jget L 1 = some (.int x1)) {t : Int32} (h : fX0_sidesBeside k x1 m = some t) (hq : (qI r (K m)) t) : RunD (jcs xs) d 5 (some .int) jt_X0_sidesBeside (0, L, [], (K m)) r := by
  unfold fX0_sidesBeside at h
  refine R_iconst (p := 1) rfl ki_0 rfl ?_
  refine R_istore_n (p := 2) rfl rfl rfl ?_
  refine R_aload_n (p := 3) rfl (jg_ne l0 rfl) rfl ?_
  refine R_iload_n (p := 4) rfl (jg_ne l1 rfl) rfl ?_
  obtain ⟨q1, eq1, h⟩ := bind_some h
  refine R_cV2v (p := 7) hK rfl (s_w2 hk) (tfX0_sidesOf hK (Nat.le_trans (by decide) hd) hk eq1) rfl rfl ?_
  refine R_istore_n (p := 8) rfl rfl rfl ?_
  refine R_iconst (p := 9) rfl ki_0 rfl ?_
  refine R_istore (p := 11) rfl rfl rfl ?_
  exact LX0_sidesBeside_11 hK hd hk _ _ h hq _ (jg_ne (jg_ne (jg_ne l0 rfl) rfl) rfl) (jg_ne (jg_ne (jg_ne l1 rfl) rfl) rfl) (jg_ne jg_self rfl) (jg_ne (jg_ne jg_self rfl) rfl) jg_self
theorem tfX0_sidesBeside {xs : List Int32} {d : Nat} {K : Mem → List jE} (hK : Ctx shC K) (hd : 3 ≤ d) {k : Nat} (hk : k < 3) {x1 : Int32} {m : Mem} {t : Int32} (h : fX0_sidesBeside k x1 m = some t) : CallD (jcs xs) d 13 [.ref (cw k 2), .int x1] (K m) (some (.int t), (K m)) := by
  obtain ⟨d, rfl⟩ : ∃ z, d = z + 1 := ⟨d - 1, by omega⟩
  refine CallD_of jmt_X0_sidesBeside rfl ⟨rfl, Nat.le_of_ble_eq_true rfl⟩ ?_
  exact ufX0_sidesBeside hK (Nat.le_of_succ_le_succ hd) hk rfl rfl h rfl
noncomputable def lX8_around_23 (x1 : Int32) (m : Mem) (s : Int32 × Int32 × Int32) : Option ((Int32 × Int32 × Int32) ⊕ (Int32 × Mem)) := (if (16 : Int32) ≤ s.2.2 then (if s.1 = 0 then (fX8_no (2 : Int32) m).bind fun q3 => some (.inr (q3.1, q3.2)) else (if ¬ s.1 = 0 then some (.inr ((((100 : Int32) * s.2.1) / s.1), m)) else none)) else (if (fX0_has 0 s.2.2 m) = 0 then some (.inl (s.1, s.2.1, (s.2.2 + (1 : Int32)))) else (if inb s.2.2 16 then (if (m (cw 0 7) s.2.2.toNatClampNeg) = x1 then (if inb s.2.2 16 then (fX0_glasses 0 s.2.2 m).bind fun q8 => (fX0_sidesBeside 0 s.2.2 m).bind fun q9 => some (.inl ((s.1 + ((m (cw 0 7) s.2.2.toNatClampNeg) - q8)), (s.2.1 + q9), (s.2.2 + (1 : Int32)))) else none) else some (.inl (s.1, s.2.1, (s.2.2 + (1 : Int32))))) else none)))
noncomputable def gX8_around_23 (xs : List Int32) (d : Nat) (r : jR) (K : Mem → List jE) (x1 : Int32) (m : Mem) (s : Int32 × Int32 × Int32) : Prop := ∀ L, jget L 0 = some (.ref 0) → jget L 1 = some (.int x1) → jget L 2 = some (.int s.1) → jget L 3 = some (.int s.2.1) → jget L 4 = some (.int s.2.2) → RunD (jcs xs) d 5 (some .int) jt_X8_around (23, L, [], (K m)) r
noncomputable def fX8_around (x1 : Int32) (m : Mem) : Option (Int32 × Mem) := (if (fX8_within x1 (0 : Int32) (60 : Int32)) = 0 then (fX8_no (1 : Int32) m).bind fun q2 => some (q2.1, q2.2) else lp (lX8_around_23 x1 m) fu ((0 : Int32), (0 : Int32), (0 : Int32)))
theorem BX8_around_23 {xs : List Int32} {d : Nat} {r : jR} {K : Mem → List jE} (hK : Ctx shC K) (hd : 3 ≤ d)  {x1 : Int32} {m : Mem} (s : Int32 × Int32 × Int32) {t : (Int32 × Int32 × Int32) ⊕ (Int32 × Mem)} (h : lX8_around_23 x1 m s = some t) (hq : sQ (gX8_around_23 xs d r K x1 m) (qIM r K) t) : gX8_around_23 xs d r K x1 m s := by
  intro L l0 l1 l2 l3 l4
  unfold lX8_around_23 at h
  refine R_iload (p := 25) rfl l4 rfl ?_
  refine R_bipush (p := 27) rfl kb_16 rfl ?_
  by_cases hc : (16 : Int32) ≤ s.2.2
  · replace h := ite_t h hc
    refine R_icge_t rfl hc ?_
    refine R_iload_n (p := 113) rfl l2 rfl ?_
    by_cases hc : s.1 = 0
    · replace h := ite_t h hc
      refine R_ifne_f (p := 116) rfl (fun z => z hc) rfl ?_
      refine R_aload_n (p := 117) rfl l0 rfl ?_
      refine R_iconst (p := 118) rfl ki_2 rfl ?_
      obtain ⟨q3, eq3, h⟩ := bind_some h
      refine R_cV2v (p := 121) hK rfl rfl (tfX8_no hK (Nat.le_trans (by decide) hd)  eq3) rfl rfl ?_
      obtain rfl := Option.some.inj h
      exact R_ireturn rfl rfl hq
    · replace h := ite_f h hc
      refine R_ifne_t rfl hc ?_
      refine R_bipush (p := 124) rfl kb_100 rfl ?_
      refine R_iload_n (p := 125) rfl l3 rfl ?_
      refine R_imul (p := 126) rfl rfl ?_
      refine R_iload_n (p := 127) rfl l2 rfl ?_
      obtain ⟨b4, h⟩ := gd h
      refine R_idiv (p := 128) rfl b4 rfl ?_
      obtain rfl := Option.some.inj h
      exact R_ireturn rfl rfl hq
  · replace h := ite_f h hc
    refine R_icge_f (p := 30) rfl hc rfl ?_
    refine R_aload_n (p := 31) rfl l0 rfl ?_
    refine R_getR (p := 34) (q := (cw 0 1)) hK rfl rfl rfl rfl ?_
    refine R_getR (p := 37) (q := (cw 0 2)) hK rfl (s_w1 (by decide)) rfl rfl ?_
    refine R_iload (p := 39) rfl l4 rfl ?_
    refine R_cV2v (p := 42) hK rfl (s_w2 (by decide)) (tfX0_has hK (Nat.le_trans (by decide) hd) (by decide)) rfl rfl ?_
    by_cases hc : (fX0_has 0 s.2.2 m) = 0
    · replace h := ite_t h hc
      refine R_ifeq_t rfl hc ?_
      refine R_iinc (p := 109) rfl l4 rfl ki_1 rfl ?_
      refine R_goto rfl ?_
      obtain rfl := Option.some.inj h
      exact hq _ (jg_ne l0 rfl) (jg_ne l1 rfl) (jg_ne l2 rfl) (jg_ne l3 rfl) jg_self
    · replace h := ite_f h hc
      refine R_ifeq_f (p := 45) rfl hc rfl ?_
      refine R_aload_n (p := 46) rfl l0 rfl ?_
      refine R_getR (p := 49) (q := (cw 0 1)) hK rfl rfl rfl rfl ?_
      refine R_getR (p := 52) (q := (cw 0 2)) hK rfl (s_w1 (by decide)) rfl rfl ?_
      refine R_getR (p := 55) (q := (cw 0 7)) hK rfl (s_w2 (by decide)) rfl rfl ?_
      refine R_iload (p := 57) rfl l4 rfl ?_
      obtain ⟨b6, h⟩ := gd h
      refine R_iald (p := 58) hK rfl (s_w7 (by decide)) b6 rfl ?_
      refine R_iload_n (p := 59) rfl l1 rfl ?_
      by_cases hc : (m (cw 0 7) s.2.2.toNatClampNeg) = x1
      · replace h := ite_t h hc
        refine R_icne_f (p := 62) rfl (fun z => z hc) rfl ?_
        refine R_iload_n (p := 63) rfl l2 rfl ?_
        refine R_aload_n (p := 64) rfl l0 rfl ?_
        refine R_getR (p := 67) (q := (cw 0 1)) hK rfl rfl rfl rfl ?_
        refine R_getR (p := 70) (q := (cw 0 2)) hK rfl (s_w1 (by decide)) rfl rfl ?_
        refine R_getR (p := 73) (q := (cw 0 7)) hK rfl (s_w2 (by decide)) rfl rfl ?_
        refine R_iload (p := 75) rfl l4 rfl ?_
        obtain ⟨b7, h⟩ := gd h
        refine R_iald (p := 76) hK rfl (s_w7 (by decide)) b7 rfl ?_
        refine R_aload_n (p := 77) rfl l0 rfl ?_
        refine R_getR (p := 80) (q := (cw 0 1)) hK rfl rfl rfl rfl ?_
        refine R_getR (p := 83) (q := (cw 0 2)) hK rfl (s_w1 (by decide)) rfl rfl ?_
        refine R_iload (p := 85) rfl l4 rfl ?_
        obtain ⟨q8, eq8, h⟩ := bind_some h
        refine R_cV2v (p := 88) hK rfl (s_w2 (by decide)) (tfX0_glasses hK (Nat.le_trans (by decide) hd) (by decide) eq8) rfl rfl ?_
        refine R_isub (p := 89) rfl rfl ?_
        refine R_iadd (p := 90) rfl rfl ?_
        refine R_istore_n (p := 91) rfl rfl rfl ?_
        refine R_iload_n (p := 92) rfl (jg_ne l3 rfl) rfl ?_
        refine R_aload_n (p := 93) rfl (jg_ne l0 rfl) rfl ?_
        refine R_getR (p := 96) (q := (cw 0 1)) hK rfl rfl rfl rfl ?_
        refine R_getR (p := 99) (q := (cw 0 2)) hK rfl (s_w1 (by decide)) rfl rfl ?_
        refine R_iload (p := 101) rfl (jg_ne l4 rfl) rfl ?_
        obtain ⟨q9, eq9, h⟩ := bind_some h
        refine R_cV2v (p := 104) hK rfl (s_w2 (by decide)) (tfX0_sidesBeside hK (Nat.le_trans (by decide) hd) (by decide) eq9) rfl rfl ?_
        refine R_iadd (p := 105) rfl rfl ?_
        refine R_istore_n (p := 106) rfl rfl rfl ?_
        refine R_iinc (p := 109) rfl (jg_ne (jg_ne l4 rfl) rfl) rfl ki_1 rfl ?_
        refine R_goto rfl ?_
        obtain rfl := Option.some.inj h
        exact hq _ (jg_ne (jg_ne (jg_ne l0 rfl) rfl) rfl) (jg_ne (jg_ne (jg_ne l1 rfl) rfl) rfl) (jg_ne (jg_ne jg_self rfl) rfl) (jg_ne jg_self rfl) jg_self
      · replace h := ite_f h hc
        refine R_icne_t rfl hc ?_
        refine R_iinc (p := 109) rfl l4 rfl ki_1 rfl ?_
        refine R_goto rfl ?_
        obtain rfl := Option.some.inj h
        exact hq _ (jg_ne l0 rfl) (jg_ne l1 rfl) (jg_ne l2 rfl) (jg_ne l3 rfl) jg_self
theorem LX8_around_23 {xs : List Int32} {d : Nat} {r : jR} {K : Mem → List jE} (hK : Ctx shC K) (hd : 3 ≤ d)  {x1 : Int32} {m : Mem} (n : Nat) (s : Int32 × Int32 × Int32) {t : (Int32 × Mem)} (h : lp (lX8_around_23 x1 m) n s = some t) (hq : (qIM r K) t) : gX8_around_23 xs d r K x1 m s := lp_ind (G := gX8_around_23 xs d r K x1 m) (Qe := (qIM r K)) (fun s t h hq => BX8_around_23 hK hd s h hq) n s t h hq
theorem ufX8_around {xs : List Int32} {d : Nat} {r : jR} {K : Mem → List jE} (hK : Ctx shC K) (hd : 3 ≤ d) {x1 : Int32} {m : Mem} {L : List (Nat × Value)} (l0 : jget L 0 = some (.ref 0)) (l1 : jget L 1 = some (.int x1)) {t : (Int32 × Mem)} (h : fX8_around x1 m = some t) (hq : (qIM r K) t) : RunD (jcs xs) d 5 (some .int) jt_X8_around (0, L, [], (K m)) r := by
  unfold fX8_around at h
  refine R_iload_n (p := 1) rfl l1 rfl ?_
  refine R_iconst (p := 2) rfl ki_0 rfl ?_
  refine R_bipush (p := 4) rfl kb_60 rfl ?_
  refine R_cS3v (p := 7) rfl (tfX8_within (Nat.le_trans (by decide) hd) ) rfl rfl ?_
  by_cases hc : (fX8_within x1 (0 : Int32) (60 : Int32)) = 0
  · replace h := ite_t h hc
    refine R_ifne_f (p := 10) rfl (fun z => z hc) rfl ?_
    refine R_aload_n (p := 11) rfl l0 rfl ?_
    refine R_iconst (p := 12) rfl ki_1 rfl ?_
    obtain ⟨q2, eq2, h⟩ := bind_some h
    refine R_cV2v (p := 15) hK rfl rfl (tfX8_no hK (Nat.le_trans (by decide) hd)  eq2) rfl rfl ?_
    obtain rfl := Option.some.inj h
    exact R_ireturn rfl rfl hq
  · replace h := ite_f h hc
    refine R_ifne_t rfl hc ?_
    refine R_iconst (p := 17) rfl ki_0 rfl ?_
    refine R_istore_n (p := 18) rfl rfl rfl ?_
    refine R_iconst (p := 19) rfl ki_0 rfl ?_
    refine R_istore_n (p := 20) rfl rfl rfl ?_
    refine R_iconst (p := 21) rfl ki_0 rfl ?_
    refine R_istore (p := 23) rfl rfl rfl ?_
    exact LX8_around_23 hK hd _ _ h hq _ (jg_ne (jg_ne (jg_ne l0 rfl) rfl) rfl) (jg_ne (jg_ne (jg_ne l1 rfl) rfl) rfl) (jg_ne (jg_ne jg_self rfl) rfl) (jg_ne jg_self rfl) jg_self
theorem tfX8_around {xs : List Int32} {d : Nat} {K : Mem → List jE} (hK : Ctx shC K) (hd : 4 ≤ d) {x1 : Int32} {m : Mem} {t : (Int32 × Mem)} (h : fX8_around x1 m = some t) : CallD (jcs xs) d 128 [.ref 0, .int x1] (K m) (some (.int t.1), K t.2) := by
  obtain ⟨d, rfl⟩ : ∃ z, d = z + 1 := ⟨d - 1, by omega⟩
  refine CallD_of jmt_X8_around rfl ⟨rfl, Nat.le_of_ble_eq_true rfl⟩ ?_
  exact ufX8_around hK (Nat.le_of_succ_le_succ hd) rfl rfl h rfl
noncomputable def lX9_around_34 (x1 : Int32) (x4 : Int32) (m : Mem) (s : Int32 × Int32 × Int32) : Option ((Int32 × Int32 × Int32) ⊕ ((Int32 × Int32 × Int32) ⊕ (Int32 × Mem))) := (if (16 : Int32) ≤ s.2.2 then some (.inr (.inl (s.1, s.2.1, (x4 + (1 : Int32))))) else (fX9_is x4 m).bind fun q5 => (if q5 = 0 then some (.inl (s.1, s.2.1, (s.2.2 + (1 : Int32)))) else (fX9_sidesOf x4 m).bind fun q6 => (if q6 = x1 then (if s.2.2 = x4 then some (.inl (s.1, s.2.1, (s.2.2 + (1 : Int32)))) else (fX9_is s.2.2 m).bind fun q7 => (if q7 = 0 then some (.inl (s.1, s.2.1, (s.2.2 + (1 : Int32)))) else (fX9_isWall x4 s.2.2 m).bind fun q8 => (if q8 = 0 then some (.inl (s.1, s.2.1, (s.2.2 + (1 : Int32)))) else (fX9_sidesOf s.2.2 m).bind fun q9 => some (.inl ((s.1 + (1 : Int32)), (s.2.1 + q9), (s.2.2 + (1 : Int32))))))) else some (.inl (s.1, s.2.1, (s.2.2 + (1 : Int32)))))))
noncomputable def gX9_around_34 (xs : List Int32) (d : Nat) (r : jR) (K : Mem → List jE) (x1 : Int32) (x4 : Int32) (m : Mem) (s : Int32 × Int32 × Int32) : Prop := ∀ L, jget L 0 = some (.ref 137) → jget L 1 = some (.int x1) → jget L 4 = some (.int x4) → jget L 2 = some (.int s.1) → jget L 3 = some (.int s.2.1) → jget L 5 = some (.int s.2.2) → RunD (jcs xs) d 6 (some .int) jt_X9_around (34, L, [], (K m)) r
noncomputable def lX9_around_24 (x1 : Int32) (m : Mem) (s : Int32 × Int32 × Int32) : Option ((Int32 × Int32 × Int32) ⊕ (Int32 × Mem)) := (if (16 : Int32) ≤ s.2.2 then (if s.1 = 0 then (fX9_finding (-1000002 : Int32) m).bind fun q3 => some (.inr (q3.1, q3.2)) else (if ¬ s.1 = 0 then some (.inr ((((100 : Int32) * s.2.1) / s.1), m)) else none)) else lp (lX9_around_34 x1 s.2.2 m) fu (s.1, s.2.1, (0 : Int32)))
noncomputable def gX9_around_24 (xs : List Int32) (d : Nat) (r : jR) (K : Mem → List jE) (x1 : Int32) (m : Mem) (s : Int32 × Int32 × Int32) : Prop := ∀ L, jget L 0 = some (.ref 137) → jget L 1 = some (.int x1) → jget L 2 = some (.int s.1) → jget L 3 = some (.int s.2.1) → jget L 4 = some (.int s.2.2) → RunD (jcs xs) d 6 (some .int) jt_X9_around (24, L, [], (K m)) r
noncomputable def fX9_around (x1 : Int32) (m : Mem) : Option (Int32 × Mem) := (if (fX9_within x1 (0 : Int32) (60 : Int32)) = 0 then (fX9_finding (-1000001 : Int32) m).bind fun q2 => some (q2.1, q2.2) else lp (lX9_around_24 x1 m) fu ((0 : Int32), (0 : Int32), (0 : Int32)))
theorem BX9_around_34 {xs : List Int32} {d : Nat} {r : jR} {K : Mem → List jE} (hK : Ctx shR K) (hd : 4 ≤ d)  {x1 : Int32} {x4 : Int32} {m : Mem} (s : Int32 × Int32 × Int32) {t : (Int32 × Int32 × Int32) ⊕ ((Int32 × Int32 × Int32) ⊕ (Int32 × Mem))} (h : lX9_around_34 x1 x4 m s = some t) (hq : sQ (gX9_around_34 xs d r K x1 x4 m) (sQ (gX9_around_24 xs d r K x1 m) (qIM r K)) t) : gX9_around_34 xs d r K x1 x4 m s := by
  intro L l0 l1 l4 l2 l3 l5
  unfold lX9_around_34 at h
  refine R_iload (p := 36) rfl l5 rfl ?_
  refine R_bipush (p := 38) rfl kb_16 rfl ?_
  by_cases hc : (16 : Int32) ≤ s.2.2
  · replace h := ite_t h hc
    refine R_icge_t rfl hc ?_
    refine R_iinc (p := 108) rfl l4 rfl ki_1 rfl ?_
    refine R_goto rfl ?_
    obtain rfl := Option.some.inj h
    exact hq _ (jg_ne l0 rfl) (jg_ne l1 rfl) (jg_ne l2 rfl) (jg_ne l3 rfl) jg_self
  · replace h := ite_f h hc
    refine R_icge_f (p := 41) rfl hc rfl ?_
    refine R_aload_n (p := 42) rfl l0 rfl ?_
    refine R_iload (p := 44) rfl l4 rfl ?_
    obtain ⟨q5, eq5, h⟩ := bind_some h
    refine R_cV2v (p := 47) hK rfl rfl (tfX9_is hK (Nat.le_trans (by decide) hd)  eq5) rfl rfl ?_
    by_cases hc : q5 = 0
    · replace h := ite_t h hc
      refine R_ifeq_t rfl hc ?_
      refine R_iinc (p := 102) rfl l5 rfl ki_1 rfl ?_
      refine R_goto rfl ?_
      obtain rfl := Option.some.inj h
      exact hq _ (jg_ne l0 rfl) (jg_ne l1 rfl) (jg_ne l4 rfl) (jg_ne l2 rfl) (jg_ne l3 rfl) jg_self
    · replace h := ite_f h hc
      refine R_ifeq_f (p := 50) rfl hc rfl ?_
      refine R_aload_n (p := 51) rfl l0 rfl ?_
      refine R_iload (p := 53) rfl l4 rfl ?_
      obtain ⟨q6, eq6, h⟩ := bind_some h
      refine R_cV2v (p := 56) hK rfl rfl (tfX9_sidesOf hK (Nat.le_trans (by decide) hd)  eq6) rfl rfl ?_
      refine R_iload_n (p := 57) rfl l1 rfl ?_
      by_cases hc : q6 = x1
      · replace h := ite_t h hc
        refine R_icne_f (p := 60) rfl (fun z => z hc) rfl ?_
        refine R_iload (p := 62) rfl l5 rfl ?_
        refine R_iload (p := 64) rfl l4 rfl ?_
        by_cases hc : s.2.2 = x4
        · replace h := ite_t h hc
          refine R_iceq_t rfl hc ?_
          refine R_iinc (p := 102) rfl l5 rfl ki_1 rfl ?_
          refine R_goto rfl ?_
          obtain rfl := Option.some.inj h
          exact hq _ (jg_ne l0 rfl) (jg_ne l1 rfl) (jg_ne l4 rfl) (jg_ne l2 rfl) (jg_ne l3 rfl) jg_self
        · replace h := ite_f h hc
          refine R_iceq_f (p := 67) rfl hc rfl ?_
          refine R_aload_n (p := 68) rfl l0 rfl ?_
          refine R_iload (p := 70) rfl l5 rfl ?_
          obtain ⟨q7, eq7, h⟩ := bind_some h
          refine R_cV2v (p := 73) hK rfl rfl (tfX9_is hK (Nat.le_trans (by decide) hd)  eq7) rfl rfl ?_
          by_cases hc : q7 = 0
          · replace h := ite_t h hc
            refine R_ifeq_t rfl hc ?_
            refine R_iinc (p := 102) rfl l5 rfl ki_1 rfl ?_
            refine R_goto rfl ?_
            obtain rfl := Option.some.inj h
            exact hq _ (jg_ne l0 rfl) (jg_ne l1 rfl) (jg_ne l4 rfl) (jg_ne l2 rfl) (jg_ne l3 rfl) jg_self
          · replace h := ite_f h hc
            refine R_ifeq_f (p := 76) rfl hc rfl ?_
            refine R_aload_n (p := 77) rfl l0 rfl ?_
            refine R_iload (p := 79) rfl l4 rfl ?_
            refine R_iload (p := 81) rfl l5 rfl ?_
            obtain ⟨q8, eq8, h⟩ := bind_some h
            refine R_cV3v (p := 84) hK rfl rfl (tfX9_isWall hK (Nat.le_trans (by decide) hd)  eq8) rfl rfl ?_
            by_cases hc : q8 = 0
            · replace h := ite_t h hc
              refine R_ifeq_t rfl hc ?_
              refine R_iinc (p := 102) rfl l5 rfl ki_1 rfl ?_
              refine R_goto rfl ?_
              obtain rfl := Option.some.inj h
              exact hq _ (jg_ne l0 rfl) (jg_ne l1 rfl) (jg_ne l4 rfl) (jg_ne l2 rfl) (jg_ne l3 rfl) jg_self
            · replace h := ite_f h hc
              refine R_ifeq_f (p := 87) rfl hc rfl ?_
              refine R_iinc (p := 90) rfl l2 rfl ki_1 rfl ?_
              refine R_iload_n (p := 91) rfl (jg_ne l3 rfl) rfl ?_
              refine R_aload_n (p := 92) rfl (jg_ne l0 rfl) rfl ?_
              refine R_iload (p := 94) rfl (jg_ne l5 rfl) rfl ?_
              obtain ⟨q9, eq9, h⟩ := bind_some h
              refine R_cV2v (p := 97) hK rfl rfl (tfX9_sidesOf hK (Nat.le_trans (by decide) hd)  eq9) rfl rfl ?_
              refine R_iadd (p := 98) rfl rfl ?_
              refine R_istore_n (p := 99) rfl rfl rfl ?_
              refine R_iinc (p := 102) rfl (jg_ne (jg_ne l5 rfl) rfl) rfl ki_1 rfl ?_
              refine R_goto rfl ?_
              obtain rfl := Option.some.inj h
              exact hq _ (jg_ne (jg_ne (jg_ne l0 rfl) rfl) rfl) (jg_ne (jg_ne (jg_ne l1 rfl) rfl) rfl) (jg_ne (jg_ne (jg_ne l4 rfl) rfl) rfl) (jg_ne (jg_ne jg_self rfl) rfl) (jg_ne jg_self rfl) jg_self
      · replace h := ite_f h hc
        refine R_icne_t rfl hc ?_
        refine R_iinc (p := 102) rfl l5 rfl ki_1 rfl ?_
        refine R_goto rfl ?_
        obtain rfl := Option.some.inj h
        exact hq _ (jg_ne l0 rfl) (jg_ne l1 rfl) (jg_ne l4 rfl) (jg_ne l2 rfl) (jg_ne l3 rfl) jg_self
theorem LX9_around_34 {xs : List Int32} {d : Nat} {r : jR} {K : Mem → List jE} (hK : Ctx shR K) (hd : 4 ≤ d)  {x1 : Int32} {x4 : Int32} {m : Mem} (n : Nat) (s : Int32 × Int32 × Int32) {t : ((Int32 × Int32 × Int32) ⊕ (Int32 × Mem))} (h : lp (lX9_around_34 x1 x4 m) n s = some t) (hq : (sQ (gX9_around_24 xs d r K x1 m) (qIM r K)) t) : gX9_around_34 xs d r K x1 x4 m s := lp_ind (G := gX9_around_34 xs d r K x1 x4 m) (Qe := (sQ (gX9_around_24 xs d r K x1 m) (qIM r K))) (fun s t h hq => BX9_around_34 hK hd s h hq) n s t h hq
theorem BX9_around_24 {xs : List Int32} {d : Nat} {r : jR} {K : Mem → List jE} (hK : Ctx shR K) (hd : 4 ≤ d)  {x1 : Int32} {m : Mem} (s : Int32 × Int32 × Int32) {t : (Int32 × Int32 × Int32) ⊕ (Int32 × Mem)} (h : lX9_around_24 x1 m s = some t) (hq : sQ (gX9_around_24 xs d r K x1 m) (qIM r K) t) : gX9_around_24 xs d r K x1 m s := by
  intro L l0 l1 l2 l3 l4
  unfold lX9_around_24 at h
  refine R_iload (p := 26) rfl l4 rfl ?_
  refine R_bipush (p := 28) rfl kb_16 rfl ?_
  by_cases hc : (16 : Int32) ≤ s.2.2
  · replace h := ite_t h hc
    refine R_icge_t rfl hc ?_
    refine R_iload_n (p := 112) rfl l2 rfl ?_
    by_cases hc : s.1 = 0
    · replace h := ite_t h hc
      refine R_ifne_f (p := 115) rfl (fun z => z hc) rfl ?_
      refine R_aload_n (p := 116) rfl l0 rfl ?_
      refine R_ldc (p := 118) rfl kl_m1000002 rfl ?_
      obtain ⟨q3, eq3, h⟩ := bind_some h
      refine R_cV2v (p := 121) hK rfl rfl (tfX9_finding hK (Nat.le_trans (by decide) hd)  eq3) rfl rfl ?_
      refine R_goto rfl ?_
      obtain rfl := Option.some.inj h
      exact R_ireturn rfl rfl hq
    · replace h := ite_f h hc
      refine R_ifne_t rfl hc ?_
      refine R_bipush (p := 126) rfl kb_100 rfl ?_
      refine R_iload_n (p := 127) rfl l3 rfl ?_
      refine R_imul (p := 128) rfl rfl ?_
      refine R_iload_n (p := 129) rfl l2 rfl ?_
      obtain ⟨b4, h⟩ := gd h
      refine R_idiv (p := 130) rfl b4 rfl ?_
      obtain rfl := Option.some.inj h
      exact R_ireturn rfl rfl hq
  · replace h := ite_f h hc
    refine R_icge_f (p := 31) rfl hc rfl ?_
    refine R_iconst (p := 32) rfl ki_0 rfl ?_
    refine R_istore (p := 34) rfl rfl rfl ?_
    exact LX9_around_34 hK hd _ _ h hq _ (jg_ne l0 rfl) (jg_ne l1 rfl) (jg_ne l4 rfl) (jg_ne l2 rfl) (jg_ne l3 rfl) jg_self
theorem LX9_around_24 {xs : List Int32} {d : Nat} {r : jR} {K : Mem → List jE} (hK : Ctx shR K) (hd : 4 ≤ d)  {x1 : Int32} {m : Mem} (n : Nat) (s : Int32 × Int32 × Int32) {t : (Int32 × Mem)} (h : lp (lX9_around_24 x1 m) n s = some t) (hq : (qIM r K) t) : gX9_around_24 xs d r K x1 m s := lp_ind (G := gX9_around_24 xs d r K x1 m) (Qe := (qIM r K)) (fun s t h hq => BX9_around_24 hK hd s h hq) n s t h hq
theorem ufX9_around {xs : List Int32} {d : Nat} {r : jR} {K : Mem → List jE} (hK : Ctx shR K) (hd : 4 ≤ d) {x1 : Int32} {m : Mem} {L : List (Nat × Value)} (l0 : jget L 0 = some (.ref 137)) (l1 : jget L 1 = some (.int x1)) {t : (Int32 × Mem)} (h : fX9_around x1 m = some t) (hq : (qIM r K) t) : RunD (jcs xs) d 6 (some .int) jt_X9_around (0, L, [], (K m)) r := by
  unfold fX9_around at h
  refine R_iload_n (p := 1) rfl l1 rfl ?_
  refine R_iconst (p := 2) rfl ki_0 rfl ?_
  refine R_bipush (p := 4) rfl kb_60 rfl ?_
  refine R_cS3v (p := 7) rfl (tfX9_within (Nat.le_trans (by decide) hd) ) rfl rfl ?_
  by_cases hc : (fX9_within x1 (0 : Int32) (60 : Int32)) = 0
  · replace h := ite_t h hc
    refine R_ifne_f (p := 10) rfl (fun z => z hc) rfl ?_
    refine R_aload_n (p := 11) rfl l0 rfl ?_
    refine R_ldc (p := 13) rfl kl_m1000001 rfl ?_
    obtain ⟨q2, eq2, h⟩ := bind_some h
    refine R_cV2v (p := 16) hK rfl rfl (tfX9_finding hK (Nat.le_trans (by decide) hd)  eq2) rfl rfl ?_
    obtain rfl := Option.some.inj h
    exact R_ireturn rfl rfl hq
  · replace h := ite_f h hc
    refine R_ifne_t rfl hc ?_
    refine R_iconst (p := 18) rfl ki_0 rfl ?_
    refine R_istore_n (p := 19) rfl rfl rfl ?_
    refine R_iconst (p := 20) rfl ki_0 rfl ?_
    refine R_istore_n (p := 21) rfl rfl rfl ?_
    refine R_iconst (p := 22) rfl ki_0 rfl ?_
    refine R_istore (p := 24) rfl rfl rfl ?_
    exact LX9_around_24 hK hd _ _ h hq _ (jg_ne (jg_ne (jg_ne l0 rfl) rfl) rfl) (jg_ne (jg_ne (jg_ne l1 rfl) rfl) rfl) (jg_ne (jg_ne jg_self rfl) rfl) (jg_ne jg_self rfl) jg_self
theorem tfX9_around {xs : List Int32} {d : Nat} {K : Mem → List jE} (hK : Ctx shR K) (hd : 5 ≤ d) {x1 : Int32} {m : Mem} {t : (Int32 × Mem)} (h : fX9_around x1 m = some t) : CallD (jcs xs) d 227 [.ref 137, .int x1] (K m) (some (.int t.1), K t.2) := by
  obtain ⟨d, rfl⟩ : ∃ z, d = z + 1 := ⟨d - 1, by omega⟩
  refine CallD_of jmt_X9_around rfl ⟨rfl, Nat.le_of_ble_eq_true rfl⟩ ?_
  exact ufX9_around hK (Nat.le_of_succ_le_succ hd) rfl rfl h rfl
noncomputable def lX8_first_62 (x3 : Int32) (m : Mem) (s : Int32 × Int32) : Option ((Int32 × Int32) ⊕ (Int32 × Mem)) := (if (16 : Int32) ≤ s.2 then (if 0 ≤ s.1 then some (.inr (s.1, m)) else (fX8_no (2 : Int32) m).bind fun q3 => some (.inr (q3.1, q3.2))) else (if (fX0_has 0 s.2 m) = 0 then some (.inl (s.1, (s.2 + (1 : Int32)))) else (if s.1 < 0 then some (.inl (s.2, (s.2 + (1 : Int32)))) else (if x3 = 0 then (if inb s.2 16 then (if inb s.1 16 then (if (m (cw 0 7) s.1.toNatClampNeg) ≤ (m (cw 0 7) s.2.toNatClampNeg) then some (.inl (s.1, (s.2 + (1 : Int32)))) else some (.inl (s.2, (s.2 + (1 : Int32))))) else none) else none) else (if inb s.2 16 then (if inb s.1 16 then (if (m (cw 0 7) s.2.toNatClampNeg) ≤ (m (cw 0 7) s.1.toNatClampNeg) then some (.inl (s.1, (s.2 + (1 : Int32)))) else some (.inl (s.2, (s.2 + (1 : Int32))))) else none) else none)))))
noncomputable def gX8_first_62 (xs : List Int32) (d : Nat) (r : jR) (K : Mem → List jE) (x3 : Int32) (m : Mem) (s : Int32 × Int32) : Prop := ∀ L, jget L 0 = some (.ref 0) → jget L 2 = some (.ref (cw 0 7)) → jget L 3 = some (.int x3) → jget L 4 = some (.int s.1) → jget L 5 = some (.int s.2) → RunD (jcs xs) d 6 (some .int) jt_X8_first (62, L, [], (K m)) r
noncomputable def bX8_first_43 (x1 : Int32) (m : Mem) : Option (Int32 × Mem) := (if (x1 - x1 / (2 : Int32) * (2 : Int32)) = 0 then lp (lX8_first_62 (1 : Int32) m) fu ((-1 : Int32), (0 : Int32)) else lp (lX8_first_62 (0 : Int32) m) fu ((-1 : Int32), (0 : Int32)))
noncomputable def lX8_first_62a (x3 : Int32) (m : Mem) (s : Int32 × Int32) : Option ((Int32 × Int32) ⊕ (Int32 × Mem)) := (if (16 : Int32) ≤ s.2 then (if 0 ≤ s.1 then some (.inr (s.1, m)) else (fX8_no (2 : Int32) m).bind fun q9 => some (.inr (q9.1, q9.2))) else (if (fX0_has 0 s.2 m) = 0 then some (.inl (s.1, (s.2 + (1 : Int32)))) else (if s.1 < 0 then some (.inl (s.2, (s.2 + (1 : Int32)))) else (if x3 = 0 then (if inb s.2 16 then (if inb s.1 16 then (if (m (cw 0 4) s.1.toNatClampNeg) ≤ (m (cw 0 4) s.2.toNatClampNeg) then some (.inl (s.1, (s.2 + (1 : Int32)))) else some (.inl (s.2, (s.2 + (1 : Int32))))) else none) else none) else (if inb s.2 16 then (if inb s.1 16 then (if (m (cw 0 4) s.2.toNatClampNeg) ≤ (m (cw 0 4) s.1.toNatClampNeg) then some (.inl (s.1, (s.2 + (1 : Int32)))) else some (.inl (s.2, (s.2 + (1 : Int32))))) else none) else none)))))
noncomputable def gX8_first_62a (xs : List Int32) (d : Nat) (r : jR) (K : Mem → List jE) (x3 : Int32) (m : Mem) (s : Int32 × Int32) : Prop := ∀ L, jget L 0 = some (.ref 0) → jget L 2 = some (.ref (cw 0 4)) → jget L 3 = some (.int x3) → jget L 4 = some (.int s.1) → jget L 5 = some (.int s.2) → RunD (jcs xs) d 6 (some .int) jt_X8_first (62, L, [], (K m)) r
noncomputable def bX8_first_43a (x1 : Int32) (m : Mem) : Option (Int32 × Mem) := (if (x1 - x1 / (2 : Int32) * (2 : Int32)) = 0 then lp (lX8_first_62a (1 : Int32) m) fu ((-1 : Int32), (0 : Int32)) else lp (lX8_first_62a (0 : Int32) m) fu ((-1 : Int32), (0 : Int32)))
noncomputable def fX8_first (x1 : Int32) (m : Mem) : Option (Int32 × Mem) := (if (fX8_within x1 (0 : Int32) (3 : Int32)) = 0 then (fX8_no (1 : Int32) m).bind fun q2 => some (q2.1, q2.2) else (if (2 : Int32) ≤ x1 then bX8_first_43 x1 m else bX8_first_43a x1 m))
theorem BX8_first_62 {xs : List Int32} {d : Nat} {r : jR} {K : Mem → List jE} (hK : Ctx shC K) (hd : 1 ≤ d)  {x3 : Int32} {m : Mem} (s : Int32 × Int32) {t : (Int32 × Int32) ⊕ (Int32 × Mem)} (h : lX8_first_62 x3 m s = some t) (hq : sQ (gX8_first_62 xs d r K x3 m) (qIM r K) t) : gX8_first_62 xs d r K x3 m s := by
  intro L l0 l2 l3 l4 l5
  unfold lX8_first_62 at h
  refine R_iload (p := 64) rfl l5 rfl ?_
  refine R_bipush (p := 66) rfl kb_16 rfl ?_
  by_cases hc : (16 : Int32) ≤ s.2
  · replace h := ite_t h hc
    refine R_icge_t rfl hc ?_
    refine R_iload (p := 130) rfl l4 rfl ?_
    by_cases hc : 0 ≤ s.1
    · replace h := ite_t h hc
      refine R_ifge_t rfl hc ?_
      refine R_iload (p := 143) rfl l4 rfl ?_
      obtain rfl := Option.some.inj h
      exact R_ireturn rfl rfl hq
    · replace h := ite_f h hc
      refine R_ifge_f (p := 133) rfl hc rfl ?_
      refine R_aload_n (p := 134) rfl l0 rfl ?_
      refine R_iconst (p := 135) rfl ki_2 rfl ?_
      obtain ⟨q3, eq3, h⟩ := bind_some h
      refine R_cV2v (p := 138) hK rfl rfl (tfX8_no hK (Nat.le_trans (by decide) hd)  eq3) rfl rfl ?_
      refine R_goto rfl ?_
      obtain rfl := Option.some.inj h
      exact R_ireturn rfl rfl hq
  · replace h := ite_f h hc
    refine R_icge_f (p := 69) rfl hc rfl ?_
    refine R_aload_n (p := 70) rfl l0 rfl ?_
    refine R_getR (p := 73) (q := (cw 0 1)) hK rfl rfl rfl rfl ?_
    refine R_getR (p := 76) (q := (cw 0 2)) hK rfl (s_w1 (by decide)) rfl rfl ?_
    refine R_iload (p := 78) rfl l5 rfl ?_
    refine R_cV2v (p := 81) hK rfl (s_w2 (by decide)) (tfX0_has hK (Nat.le_trans (by decide) hd) (by decide)) rfl rfl ?_
    by_cases hc : (fX0_has 0 s.2 m) = 0
    · replace h := ite_t h hc
      refine R_ifeq_t rfl hc ?_
      refine R_iinc (p := 125) rfl l5 rfl ki_1 rfl ?_
      refine R_goto rfl ?_
      obtain rfl := Option.some.inj h
      exact hq _ (jg_ne l0 rfl) (jg_ne l2 rfl) (jg_ne l3 rfl) (jg_ne l4 rfl) jg_self
    · replace h := ite_f h hc
      refine R_ifeq_f (p := 84) rfl hc rfl ?_
      refine R_iload (p := 86) rfl l4 rfl ?_
      by_cases hc : s.1 < 0
      · replace h := ite_t h hc
        refine R_iflt_t rfl hc ?_
        refine R_iload (p := 120) rfl l5 rfl ?_
        refine R_istore (p := 122) rfl rfl rfl ?_
        refine R_iinc (p := 125) rfl (jg_ne l5 rfl) rfl ki_1 rfl ?_
        refine R_goto rfl ?_
        obtain rfl := Option.some.inj h
        exact hq _ (jg_ne (jg_ne l0 rfl) rfl) (jg_ne (jg_ne l2 rfl) rfl) (jg_ne (jg_ne l3 rfl) rfl) (jg_ne jg_self rfl) jg_self
      · replace h := ite_f h hc
        refine R_iflt_f (p := 89) rfl hc rfl ?_
        refine R_iload_n (p := 90) rfl l3 rfl ?_
        by_cases hc : x3 = 0
        · replace h := ite_t h hc
          refine R_ifeq_t rfl hc ?_
          refine R_aload_n (p := 108) rfl l2 rfl ?_
          refine R_iload (p := 110) rfl l5 rfl ?_
          obtain ⟨b5, h⟩ := gd h
          refine R_iald (p := 111) hK rfl (s_w7 (by decide)) b5 rfl ?_
          refine R_aload_n (p := 112) rfl l2 rfl ?_
          refine R_iload (p := 114) rfl l4 rfl ?_
          obtain ⟨b6, h⟩ := gd h
          refine R_iald (p := 115) hK rfl (s_w7 (by decide)) b6 rfl ?_
          by_cases hc : (m (cw 0 7) s.1.toNatClampNeg) ≤ (m (cw 0 7) s.2.toNatClampNeg)
          · replace h := ite_t h hc
            refine R_icge_t rfl hc ?_
            refine R_iinc (p := 125) rfl l5 rfl ki_1 rfl ?_
            refine R_goto rfl ?_
            obtain rfl := Option.some.inj h
            exact hq _ (jg_ne l0 rfl) (jg_ne l2 rfl) (jg_ne l3 rfl) (jg_ne l4 rfl) jg_self
          · replace h := ite_f h hc
            refine R_icge_f (p := 118) rfl hc rfl ?_
            refine R_iload (p := 120) rfl l5 rfl ?_
            refine R_istore (p := 122) rfl rfl rfl ?_
            refine R_iinc (p := 125) rfl (jg_ne l5 rfl) rfl ki_1 rfl ?_
            refine R_goto rfl ?_
            obtain rfl := Option.some.inj h
            exact hq _ (jg_ne (jg_ne l0 rfl) rfl) (jg_ne (jg_ne l2 rfl) rfl) (jg_ne (jg_ne l3 rfl) rfl) (jg_ne jg_self rfl) jg_self
        · replace h := ite_f h hc
          refine R_ifeq_f (p := 93) rfl hc rfl ?_
          refine R_aload_n (p := 94) rfl l2 rfl ?_
          refine R_iload (p := 96) rfl l5 rfl ?_
          obtain ⟨b7, h⟩ := gd h
          refine R_iald (p := 97) hK rfl (s_w7 (by decide)) b7 rfl ?_
          refine R_aload_n (p := 98) rfl l2 rfl ?_
          refine R_iload (p := 100) rfl l4 rfl ?_
          obtain ⟨b8, h⟩ := gd h
          refine R_iald (p := 101) hK rfl (s_w7 (by decide)) b8 rfl ?_
          by_cases hc : (m (cw 0 7) s.2.toNatClampNeg) ≤ (m (cw 0 7) s.1.toNatClampNeg)
          · replace h := ite_t h hc
            refine R_icle_t rfl hc ?_
            refine R_iinc (p := 125) rfl l5 rfl ki_1 rfl ?_
            refine R_goto rfl ?_
            obtain rfl := Option.some.inj h
            exact hq _ (jg_ne l0 rfl) (jg_ne l2 rfl) (jg_ne l3 rfl) (jg_ne l4 rfl) jg_self
          · replace h := ite_f h hc
            refine R_icle_f (p := 104) rfl hc rfl ?_
            refine R_goto rfl ?_
            refine R_iload (p := 120) rfl l5 rfl ?_
            refine R_istore (p := 122) rfl rfl rfl ?_
            refine R_iinc (p := 125) rfl (jg_ne l5 rfl) rfl ki_1 rfl ?_
            refine R_goto rfl ?_
            obtain rfl := Option.some.inj h
            exact hq _ (jg_ne (jg_ne l0 rfl) rfl) (jg_ne (jg_ne l2 rfl) rfl) (jg_ne (jg_ne l3 rfl) rfl) (jg_ne jg_self rfl) jg_self
theorem LX8_first_62 {xs : List Int32} {d : Nat} {r : jR} {K : Mem → List jE} (hK : Ctx shC K) (hd : 1 ≤ d)  {x3 : Int32} {m : Mem} (n : Nat) (s : Int32 × Int32) {t : (Int32 × Mem)} (h : lp (lX8_first_62 x3 m) n s = some t) (hq : (qIM r K) t) : gX8_first_62 xs d r K x3 m s := lp_ind (G := gX8_first_62 xs d r K x3 m) (Qe := (qIM r K)) (fun s t h hq => BX8_first_62 hK hd s h hq) n s t h hq
theorem tbX8_first_43 {xs : List Int32} {d : Nat} {r : jR} {K : Mem → List jE} (hK : Ctx shC K) (hd : 1 ≤ d)  {x1 : Int32} {m : Mem} {L : List (Nat × Value)} (l0 : jget L 0 = some (.ref 0)) (l1 : jget L 1 = some (.int x1)) {t : (Int32 × Mem)} (h : bX8_first_43 x1 m = some t) (hq : (qIM r K) t) : RunD (jcs xs) d 6 (some .int) jt_X8_first (43, L, [.ref (cw 0 7)], (K m)) r := by
  unfold bX8_first_43 at h
  refine R_astore_n (p := 44) rfl rfl rfl ?_
  refine R_iload_n (p := 45) rfl (jg_ne l1 rfl) rfl ?_
  refine R_iconst (p := 46) rfl ki_2 rfl ?_
  refine R_irem (p := 47) rfl (by decide) rfl ?_
  by_cases hc : (x1 - x1 / (2 : Int32) * (2 : Int32)) = 0
  · replace h := ite_t h hc
    refine R_ifne_f (p := 50) rfl (fun z => z hc) rfl ?_
    refine R_iconst (p := 51) rfl ki_1 rfl ?_
    refine R_goto rfl ?_
    refine R_istore_n (p := 56) rfl rfl rfl ?_
    refine R_iconst (p := 57) rfl ki_m1 rfl ?_
    refine R_istore (p := 59) rfl rfl rfl ?_
    refine R_iconst (p := 60) rfl ki_0 rfl ?_
    refine R_istore (p := 62) rfl rfl rfl ?_
    exact LX8_first_62 hK hd _ _ h hq _ (jg_ne (jg_ne (jg_ne (jg_ne l0 rfl) rfl) rfl) rfl) (jg_ne (jg_ne (jg_ne jg_self rfl) rfl) rfl) (jg_ne (jg_ne jg_self rfl) rfl) (jg_ne jg_self rfl) jg_self
  · replace h := ite_f h hc
    refine R_ifne_t rfl hc ?_
    refine R_iconst (p := 55) rfl ki_0 rfl ?_
    refine R_istore_n (p := 56) rfl rfl rfl ?_
    refine R_iconst (p := 57) rfl ki_m1 rfl ?_
    refine R_istore (p := 59) rfl rfl rfl ?_
    refine R_iconst (p := 60) rfl ki_0 rfl ?_
    refine R_istore (p := 62) rfl rfl rfl ?_
    exact LX8_first_62 hK hd _ _ h hq _ (jg_ne (jg_ne (jg_ne (jg_ne l0 rfl) rfl) rfl) rfl) (jg_ne (jg_ne (jg_ne jg_self rfl) rfl) rfl) (jg_ne (jg_ne jg_self rfl) rfl) (jg_ne jg_self rfl) jg_self
theorem BX8_first_62a {xs : List Int32} {d : Nat} {r : jR} {K : Mem → List jE} (hK : Ctx shC K) (hd : 1 ≤ d)  {x3 : Int32} {m : Mem} (s : Int32 × Int32) {t : (Int32 × Int32) ⊕ (Int32 × Mem)} (h : lX8_first_62a x3 m s = some t) (hq : sQ (gX8_first_62a xs d r K x3 m) (qIM r K) t) : gX8_first_62a xs d r K x3 m s := by
  intro L l0 l2 l3 l4 l5
  unfold lX8_first_62a at h
  refine R_iload (p := 64) rfl l5 rfl ?_
  refine R_bipush (p := 66) rfl kb_16 rfl ?_
  by_cases hc : (16 : Int32) ≤ s.2
  · replace h := ite_t h hc
    refine R_icge_t rfl hc ?_
    refine R_iload (p := 130) rfl l4 rfl ?_
    by_cases hc : 0 ≤ s.1
    · replace h := ite_t h hc
      refine R_ifge_t rfl hc ?_
      refine R_iload (p := 143) rfl l4 rfl ?_
      obtain rfl := Option.some.inj h
      exact R_ireturn rfl rfl hq
    · replace h := ite_f h hc
      refine R_ifge_f (p := 133) rfl hc rfl ?_
      refine R_aload_n (p := 134) rfl l0 rfl ?_
      refine R_iconst (p := 135) rfl ki_2 rfl ?_
      obtain ⟨q9, eq9, h⟩ := bind_some h
      refine R_cV2v (p := 138) hK rfl rfl (tfX8_no hK (Nat.le_trans (by decide) hd)  eq9) rfl rfl ?_
      refine R_goto rfl ?_
      obtain rfl := Option.some.inj h
      exact R_ireturn rfl rfl hq
  · replace h := ite_f h hc
    refine R_icge_f (p := 69) rfl hc rfl ?_
    refine R_aload_n (p := 70) rfl l0 rfl ?_
    refine R_getR (p := 73) (q := (cw 0 1)) hK rfl rfl rfl rfl ?_
    refine R_getR (p := 76) (q := (cw 0 2)) hK rfl (s_w1 (by decide)) rfl rfl ?_
    refine R_iload (p := 78) rfl l5 rfl ?_
    refine R_cV2v (p := 81) hK rfl (s_w2 (by decide)) (tfX0_has hK (Nat.le_trans (by decide) hd) (by decide)) rfl rfl ?_
    by_cases hc : (fX0_has 0 s.2 m) = 0
    · replace h := ite_t h hc
      refine R_ifeq_t rfl hc ?_
      refine R_iinc (p := 125) rfl l5 rfl ki_1 rfl ?_
      refine R_goto rfl ?_
      obtain rfl := Option.some.inj h
      exact hq _ (jg_ne l0 rfl) (jg_ne l2 rfl) (jg_ne l3 rfl) (jg_ne l4 rfl) jg_self
    · replace h := ite_f h hc
      refine R_ifeq_f (p := 84) rfl hc rfl ?_
      refine R_iload (p := 86) rfl l4 rfl ?_
      by_cases hc : s.1 < 0
      · replace h := ite_t h hc
        refine R_iflt_t rfl hc ?_
        refine R_iload (p := 120) rfl l5 rfl ?_
        refine R_istore (p := 122) rfl rfl rfl ?_
        refine R_iinc (p := 125) rfl (jg_ne l5 rfl) rfl ki_1 rfl ?_
        refine R_goto rfl ?_
        obtain rfl := Option.some.inj h
        exact hq _ (jg_ne (jg_ne l0 rfl) rfl) (jg_ne (jg_ne l2 rfl) rfl) (jg_ne (jg_ne l3 rfl) rfl) (jg_ne jg_self rfl) jg_self
      · replace h := ite_f h hc
        refine R_iflt_f (p := 89) rfl hc rfl ?_
        refine R_iload_n (p := 90) rfl l3 rfl ?_
        by_cases hc : x3 = 0
        · replace h := ite_t h hc
          refine R_ifeq_t rfl hc ?_
          refine R_aload_n (p := 108) rfl l2 rfl ?_
          refine R_iload (p := 110) rfl l5 rfl ?_
          obtain ⟨b11, h⟩ := gd h
          refine R_iald (p := 111) hK rfl (s_w4 (by decide)) b11 rfl ?_
          refine R_aload_n (p := 112) rfl l2 rfl ?_
          refine R_iload (p := 114) rfl l4 rfl ?_
          obtain ⟨b12, h⟩ := gd h
          refine R_iald (p := 115) hK rfl (s_w4 (by decide)) b12 rfl ?_
          by_cases hc : (m (cw 0 4) s.1.toNatClampNeg) ≤ (m (cw 0 4) s.2.toNatClampNeg)
          · replace h := ite_t h hc
            refine R_icge_t rfl hc ?_
            refine R_iinc (p := 125) rfl l5 rfl ki_1 rfl ?_
            refine R_goto rfl ?_
            obtain rfl := Option.some.inj h
            exact hq _ (jg_ne l0 rfl) (jg_ne l2 rfl) (jg_ne l3 rfl) (jg_ne l4 rfl) jg_self
          · replace h := ite_f h hc
            refine R_icge_f (p := 118) rfl hc rfl ?_
            refine R_iload (p := 120) rfl l5 rfl ?_
            refine R_istore (p := 122) rfl rfl rfl ?_
            refine R_iinc (p := 125) rfl (jg_ne l5 rfl) rfl ki_1 rfl ?_
            refine R_goto rfl ?_
            obtain rfl := Option.some.inj h
            exact hq _ (jg_ne (jg_ne l0 rfl) rfl) (jg_ne (jg_ne l2 rfl) rfl) (jg_ne (jg_ne l3 rfl) rfl) (jg_ne jg_self rfl) jg_self
        · replace h := ite_f h hc
          refine R_ifeq_f (p := 93) rfl hc rfl ?_
          refine R_aload_n (p := 94) rfl l2 rfl ?_
          refine R_iload (p := 96) rfl l5 rfl ?_
          obtain ⟨b13, h⟩ := gd h
          refine R_iald (p := 97) hK rfl (s_w4 (by decide)) b13 rfl ?_
          refine R_aload_n (p := 98) rfl l2 rfl ?_
          refine R_iload (p := 100) rfl l4 rfl ?_
          obtain ⟨b14, h⟩ := gd h
          refine R_iald (p := 101) hK rfl (s_w4 (by decide)) b14 rfl ?_
          by_cases hc : (m (cw 0 4) s.2.toNatClampNeg) ≤ (m (cw 0 4) s.1.toNatClampNeg)
          · replace h := ite_t h hc
            refine R_icle_t rfl hc ?_
            refine R_iinc (p := 125) rfl l5 rfl ki_1 rfl ?_
            refine R_goto rfl ?_
            obtain rfl := Option.some.inj h
            exact hq _ (jg_ne l0 rfl) (jg_ne l2 rfl) (jg_ne l3 rfl) (jg_ne l4 rfl) jg_self
          · replace h := ite_f h hc
            refine R_icle_f (p := 104) rfl hc rfl ?_
            refine R_goto rfl ?_
            refine R_iload (p := 120) rfl l5 rfl ?_
            refine R_istore (p := 122) rfl rfl rfl ?_
            refine R_iinc (p := 125) rfl (jg_ne l5 rfl) rfl ki_1 rfl ?_
            refine R_goto rfl ?_
            obtain rfl := Option.some.inj h
            exact hq _ (jg_ne (jg_ne l0 rfl) rfl) (jg_ne (jg_ne l2 rfl) rfl) (jg_ne (jg_ne l3 rfl) rfl) (jg_ne jg_self rfl) jg_self
theorem LX8_first_62a {xs : List Int32} {d : Nat} {r : jR} {K : Mem → List jE} (hK : Ctx shC K) (hd : 1 ≤ d)  {x3 : Int32} {m : Mem} (n : Nat) (s : Int32 × Int32) {t : (Int32 × Mem)} (h : lp (lX8_first_62a x3 m) n s = some t) (hq : (qIM r K) t) : gX8_first_62a xs d r K x3 m s := lp_ind (G := gX8_first_62a xs d r K x3 m) (Qe := (qIM r K)) (fun s t h hq => BX8_first_62a hK hd s h hq) n s t h hq
theorem tbX8_first_43a {xs : List Int32} {d : Nat} {r : jR} {K : Mem → List jE} (hK : Ctx shC K) (hd : 1 ≤ d)  {x1 : Int32} {m : Mem} {L : List (Nat × Value)} (l0 : jget L 0 = some (.ref 0)) (l1 : jget L 1 = some (.int x1)) {t : (Int32 × Mem)} (h : bX8_first_43a x1 m = some t) (hq : (qIM r K) t) : RunD (jcs xs) d 6 (some .int) jt_X8_first (43, L, [.ref (cw 0 4)], (K m)) r := by
  unfold bX8_first_43a at h
  refine R_astore_n (p := 44) rfl rfl rfl ?_
  refine R_iload_n (p := 45) rfl (jg_ne l1 rfl) rfl ?_
  refine R_iconst (p := 46) rfl ki_2 rfl ?_
  refine R_irem (p := 47) rfl (by decide) rfl ?_
  by_cases hc : (x1 - x1 / (2 : Int32) * (2 : Int32)) = 0
  · replace h := ite_t h hc
    refine R_ifne_f (p := 50) rfl (fun z => z hc) rfl ?_
    refine R_iconst (p := 51) rfl ki_1 rfl ?_
    refine R_goto rfl ?_
    refine R_istore_n (p := 56) rfl rfl rfl ?_
    refine R_iconst (p := 57) rfl ki_m1 rfl ?_
    refine R_istore (p := 59) rfl rfl rfl ?_
    refine R_iconst (p := 60) rfl ki_0 rfl ?_
    refine R_istore (p := 62) rfl rfl rfl ?_
    exact LX8_first_62a hK hd _ _ h hq _ (jg_ne (jg_ne (jg_ne (jg_ne l0 rfl) rfl) rfl) rfl) (jg_ne (jg_ne (jg_ne jg_self rfl) rfl) rfl) (jg_ne (jg_ne jg_self rfl) rfl) (jg_ne jg_self rfl) jg_self
  · replace h := ite_f h hc
    refine R_ifne_t rfl hc ?_
    refine R_iconst (p := 55) rfl ki_0 rfl ?_
    refine R_istore_n (p := 56) rfl rfl rfl ?_
    refine R_iconst (p := 57) rfl ki_m1 rfl ?_
    refine R_istore (p := 59) rfl rfl rfl ?_
    refine R_iconst (p := 60) rfl ki_0 rfl ?_
    refine R_istore (p := 62) rfl rfl rfl ?_
    exact LX8_first_62a hK hd _ _ h hq _ (jg_ne (jg_ne (jg_ne (jg_ne l0 rfl) rfl) rfl) rfl) (jg_ne (jg_ne (jg_ne jg_self rfl) rfl) rfl) (jg_ne (jg_ne jg_self rfl) rfl) (jg_ne jg_self rfl) jg_self
theorem ufX8_first {xs : List Int32} {d : Nat} {r : jR} {K : Mem → List jE} (hK : Ctx shC K) (hd : 1 ≤ d) {x1 : Int32} {m : Mem} {L : List (Nat × Value)} (l0 : jget L 0 = some (.ref 0)) (l1 : jget L 1 = some (.int x1)) {t : (Int32 × Mem)} (h : fX8_first x1 m = some t) (hq : (qIM r K) t) : RunD (jcs xs) d 6 (some .int) jt_X8_first (0, L, [], (K m)) r := by
  unfold fX8_first at h
  refine R_iload_n (p := 1) rfl l1 rfl ?_
  refine R_iconst (p := 2) rfl ki_0 rfl ?_
  refine R_iconst (p := 3) rfl ki_3 rfl ?_
  refine R_cS3v (p := 6) rfl (tfX8_within (Nat.le_trans (by decide) hd) ) rfl rfl ?_
  by_cases hc : (fX8_within x1 (0 : Int32) (3 : Int32)) = 0
  · replace h := ite_t h hc
    refine R_ifne_f (p := 9) rfl (fun z => z hc) rfl ?_
    refine R_aload_n (p := 10) rfl l0 rfl ?_
    refine R_iconst (p := 11) rfl ki_1 rfl ?_
    obtain ⟨q2, eq2, h⟩ := bind_some h
    refine R_cV2v (p := 14) hK rfl rfl (tfX8_no hK (Nat.le_trans (by decide) hd)  eq2) rfl rfl ?_
    obtain rfl := Option.some.inj h
    exact R_ireturn rfl rfl hq
  · replace h := ite_f h hc
    refine R_ifne_t rfl hc ?_
    refine R_iload_n (p := 16) rfl l1 rfl ?_
    refine R_iconst (p := 17) rfl ki_2 rfl ?_
    by_cases hc : (2 : Int32) ≤ x1
    · replace h := ite_t h hc
      refine R_icge_t rfl hc ?_
      refine R_aload_n (p := 34) rfl l0 rfl ?_
      refine R_getR (p := 37) (q := (cw 0 1)) hK rfl rfl rfl rfl ?_
      refine R_getR (p := 40) (q := (cw 0 2)) hK rfl (s_w1 (by decide)) rfl rfl ?_
      refine R_getR (p := 43) (q := (cw 0 7)) hK rfl (s_w2 (by decide)) rfl rfl ?_
      exact tbX8_first_43 hK hd l0 l1 h hq
    · replace h := ite_f h hc
      refine R_icge_f (p := 20) rfl hc rfl ?_
      refine R_aload_n (p := 21) rfl l0 rfl ?_
      refine R_getR (p := 24) (q := (cw 0 1)) hK rfl rfl rfl rfl ?_
      refine R_getR (p := 27) (q := (cw 0 2)) hK rfl (s_w1 (by decide)) rfl rfl ?_
      refine R_getR (p := 30) (q := (cw 0 4)) hK rfl (s_w2 (by decide)) rfl rfl ?_
      refine R_goto rfl ?_
      exact tbX8_first_43a hK hd l0 l1 h hq
theorem tfX8_first {xs : List Int32} {d : Nat} {K : Mem → List jE} (hK : Ctx shC K) (hd : 2 ≤ d) {x1 : Int32} {m : Mem} {t : (Int32 × Mem)} (h : fX8_first x1 m = some t) : CallD (jcs xs) d 129 [.ref 0, .int x1] (K m) (some (.int t.1), K t.2) := by
  obtain ⟨d, rfl⟩ : ∃ z, d = z + 1 := ⟨d - 1, by omega⟩
  refine CallD_of jmt_X8_first rfl ⟨rfl, Nat.le_of_ble_eq_true rfl⟩ ?_
  exact ufX8_first hK (Nat.le_of_succ_le_succ hd) rfl rfl h rfl
